import java.util.ArrayList;
import java.util.List;
import java.util.Random;

/** All promises together: runs of calls in any order, each answer compared with the model. */
final class CallsTest {
    private static final int OBJECTS = 1500;
    private static final int CALLS = 512;
    private static final int[] ODD = {-1, 0, 1, 2, 5, 6, 7, 8, 9, 30, 20000, 20001,
        Integer.MIN_VALUE, Integer.MAX_VALUE};

    private final Check check = new Check();
    private final Random random;
    private final BoxedCore core = new BoxedCore();
    private final StringBuilder text = new StringBuilder();
    private final List<Long> arguments = new ArrayList<>();
    private final String what;
    private Model model;
    private Model ran;
    private String coming = "";
    private int calls;

    private CallsTest(int seed) {
        random = new Random(seed);
        what = "seed " + seed + " ";
        Programs programs = new Programs(seed);
        while (coming.isEmpty() || coming.length() > 600) {
            coming = programs.program();
            if (random.nextInt(4) == 0) {
                coming = programs.spoilt(coming);
            }
        }
    }

    public static void main(String[] args) {
        int objects = args.length > 0 ? Integer.parseInt(args[0]) : OBJECTS;
        Check all = new Check();
        for (int seed = 0; seed < objects; seed++) {
            CallsTest test = new CallsTest(seed);
            for (test.calls = 0; test.calls < CALLS; test.calls++) {
                test.anyCall();
            }
            all.same("seed " + seed, 0, test.check.failures());
        }
        all.end();
    }

    /** What a call answers, or the exception's name that it throws. */
    private String answer(Check.Call call) {
        try {
            return "" + call.answer();
        } catch (IllegalArgumentException | IllegalStateException | IndexOutOfBoundsException e) {
            return e.getClass() + "";
        }
    }

    private void compare(String call, Object due, Check.Call made) {
        check.equal(what + calls + " " + call, "" + due, answer(made));
    }

    private int odd() {
        return random.nextInt(3) == 0 ? ODD[random.nextInt(ODD.length)] : random.nextInt(8);
    }

    private void anyCall() {
        int which = random.nextInt(100);
        if (!coming.isEmpty() && which < 80) {
            feed(Math.min(coming.length(), 1 + random.nextInt(8)));
            return;
        }
        switch (which % 12) {
            case 0:
                compare("compile", compiled().answer, core::compile);
                return;
            case 1:
                compare("place", model == null ? -1 : model.place, core::place);
                return;
            case 2:
                compare("defs", model == null ? 0 : model.defs.size(), core::defs);
                return;
            case 3:
                def(random.nextInt(8) - 1, odd());
                return;
            case 4:
            case 5:
                argument(random.nextInt(3) == 0 ? random.nextLong() : random.nextInt(9));
                return;
            case 6:
            case 7:
                run(random.nextInt(8) - 1, random.nextBoolean(),
                        random.nextInt(5) == 0 ? odd() : random.nextInt(20001));
                return;
            case 8:
                told(odd());
                return;
            case 9:
                int way = odd();
                compare("sort", ran == null ? -1 : ran.sort(way), () -> core.sort(way));
                compare("result", ran == null ? 0 : ran.word(way), () -> core.result(way));
                return;
            case 10:
                oddFeed(odd());
                return;
            default:
                if (random.nextInt(40) == 0) {
                    compare("wipe", text.length(), core::wipe);
                    text.setLength(0);
                    coming = new Programs(random.nextInt()).program();
                    forget();
                }
        }
    }

    private void forget() {
        model = null;
        ran = null;
        arguments.clear();
    }

    private Model compiled() {
        if (model == null) {
            model = new Model(text.toString());
        }
        return model;
    }

    private void feed(int n) {
        long octets = random.nextLong();
        for (int i = n - 1; i >= 0; i--) {
            octets = octets << 8 | coming.charAt(i);
        }
        text.append(coming, 0, n);
        coming = coming.substring(n);
        long fed = octets;
        if (text.length() > 3000) {
            text.setLength(text.length() - n);
            compare("feed", IllegalArgumentException.class, () -> core.feed(n, fed));
        } else {
            compare("feed", text.length(), () -> core.feed(n, fed));
            forget();
        }
    }

    private void oddFeed(int n) {
        if (n < 1 || n > 8) {
            compare("feed " + n, IllegalArgumentException.class, () -> core.feed(n, 32));
        }
    }

    private void def(int d, int tally) {
        boolean there = model != null && d >= 0 && d < model.defs.size() && tally >= 0 && tally < 6;
        compare("def " + d + " " + tally,
                there ? model.defs.get(d).tallies[tally] : IndexOutOfBoundsException.class,
                () -> core.def(d, tally));
    }

    private void argument(long word) {
        if (arguments.size() == 6) {
            compare("argument", IllegalStateException.class, () -> core.argument(word));
            return;
        }
        // Few DEFS take many: otherwise nearly all runs would be refused.
        if (arguments.size() < 2 || random.nextInt(20) == 0) {
            arguments.add(word);
            compare("argument", arguments.size(), () -> core.argument(word));
        }
    }

    private void run(int d, boolean boxes, int steps) {
        String call = "run " + d + " " + boxes + " " + steps;
        if (model == null || d < 0 || d >= model.defs.size()) {
            compare(call, IndexOutOfBoundsException.class, () -> core.run(d, boxes, steps));
            return;
        }
        List<Model.Type> types = model.defs.get(d).types;
        while (arguments.size() < types.size() && random.nextInt(10) > 0) {
            arguments.add(3L);
            compare("argument", arguments.size(), () -> core.argument(3));
        }
        if (steps < 0 || steps > 20000 || types.size() != arguments.size()
                || types.stream().anyMatch(t -> t != Model.LONG && t != Model.DOUBLE)) {
            compare(call, IllegalArgumentException.class, () -> core.run(d, boxes, steps));
            return;
        }
        ran = model;
        long[] words = arguments.stream().mapToLong(Long::longValue).toArray();
        compare(call, model.run(d, boxes, steps, words), () -> core.run(d, boxes, steps));
        arguments.clear();
    }

    private void told(int count) {
        Object due = count < 0 || count > 7 ? IndexOutOfBoundsException.class
                : (Object) (ran == null ? 0 : ran.told[count]);
        compare("told " + count, due, () -> core.told(count));
    }
}
