import java.util.Random;

/** Compares BoxedCore with the plain model on programs made from fixed seeds. */
final class ModelTest {
    private static final int PROGRAMS = 6000;

    private final Check check = new Check();
    private final int[] answers = new int[40];
    private final int[] endings = new int[5];
    private int boxed;
    private int covered;
    private int shortWays;

    public static void main(String[] args) {
        ModelTest test = new ModelTest();
        int programs = args.length > 0 ? Integer.parseInt(args[0]) : PROGRAMS;
        for (int seed = 0; seed < programs; seed++) {
            test.compare(seed);
        }
        test.wasWorthIt();
        test.check.end();
    }

    private void compare(int seed) {
        Programs programs = new Programs(seed);
        String text = programs.program();
        if (seed % 3 == 0) {
            text = programs.spoilt(text);
        }
        if (text.length() > 3000) {
            return;
        }
        Model model = new Model(text);
        BoxedCore core = Check.fed(text);
        String what = "seed " + seed + " " + text;
        check.same("compile " + what, model.answer, core.compile());
        check.same("place " + what, model.place, core.place());
        check.same("defs " + what, model.defs.size(), core.defs());
        answers[model.answer + 8]++;
        for (int d = 0; d < core.defs(); d++) {
            for (int i = 0; i < 6; i++) {
                check.same("def " + d + " " + i + " " + what, model.defs.get(d).tallies[i],
                        core.def(d, i));
            }
            shortWays += core.def(d, 5);
            run(model, core, d, new Random(seed + 31L * d), what);
        }
    }

    private void run(Model model, BoxedCore core, int d, Random random, String what) {
        if (model.defs.get(d).types.stream().anyMatch(t -> t != Model.LONG && t != Model.DOUBLE)) {
            return;
        }
        long[] arguments = new long[model.defs.get(d).types.size()];
        for (int i = 0; i < arguments.length; i++) {
            arguments[i] = random.nextInt(4) == 0 ? random.nextLong() : random.nextInt(10) - 3;
        }
        int steps = random.nextInt(4) == 0 ? random.nextInt(60) : 20000;
        for (int boxes = 0; boxes < 2; boxes++) {
            for (long argument : arguments) {
                core.argument(argument);
            }
            String run = "run " + d + " " + boxes + " " + steps + " of " + what;
            int due = model.run(d, boxes == 1, steps, arguments);
            check.same(run, due, core.run(d, boxes == 1, steps));
            endings[due]++;
            for (int i = 0; i < 8; i++) {
                check.same("told " + i + " " + run, model.told[i], core.told(i));
            }
            boxed += core.told(1) > 0 ? 1 : 0;
            covered += core.told(7) > 0 ? 1 : 0;
            for (int way = 0; way < 20; way++) {
                check.same("sort " + way + " " + run, model.sort(way), core.sort(way));
                check.same("result " + way + " " + run, model.word(way), core.result(way));
            }
        }
    }

    /** Programs that are all alike would prove nothing. */
    private void wasWorthIt() {
        StringBuilder seen = new StringBuilder("faults");
        for (int fault = 1; fault <= 7; fault++) {
            seen.append(" ").append(answers[8 - fault]);
        }
        seen.append(", endings");
        for (int ending = 1; ending <= 4; ending++) {
            seen.append(" ").append(endings[ending]);
        }
        System.out.println(seen + ", boxed " + boxed + ", covered " + covered + ", short "
                + shortWays);
        check.same("runs with boxes", 1, boxed > 100 ? 1 : 0);
        check.same("runs with covers", 1, covered > 100 ? 1 : 0);
        check.same("short ways", 1, shortWays > 100 ? 1 : 0);
        check.same("runs that end well", 1, endings[1] > 1000 ? 1 : 0);
    }
}
