import java.util.Random;

/** Promises 4 and 5: texts that come near several limits at once, compared with the model. */
final class LimitsTest {
    private static final int TEXTS = 6000;

    private final Check check = new Check();
    private final Random random = new Random(7);
    private final int[] seen = new int[8];

    public static void main(String[] args) {
        LimitsTest test = new LimitsTest();
        int texts = args.length > 0 ? Integer.parseInt(args[0]) : TEXTS;
        for (int i = 0; i < texts; i++) {
            test.compare(test.program());
        }
        StringBuilder seen = new StringBuilder("faults");
        for (int fault = 0; fault < 8; fault++) {
            seen.append(" ").append(test.seen[fault]);
        }
        System.out.println(seen);
        for (int fault : new int[] {0, 2, 3, 4, 5, 7}) {
            test.check.same("texts with fault " + fault, 1, test.seen[fault] > 50 ? 1 : 0);
        }
        test.check.end();
    }

    private void compare(String text) {
        if (text.length() > 3000) {
            return;
        }
        Model model = new Model(text);
        BoxedCore core = Check.fed(text);
        check.same("compile " + text, model.answer, core.compile());
        check.same("place of " + text, model.place, core.place());
        check.same("defs of " + text, model.defs.size(), core.defs());
        seen[Math.max(0, -model.answer)]++;
    }

    /** Mostly few, else some number about a limit. */
    private int near(int limit) {
        return random.nextInt(5) > 0 ? random.nextInt(3) : limit - 1 + random.nextInt(3);
    }

    private String program() {
        StringBuilder text = new StringBuilder();
        int defs = random.nextInt(25) == 0 ? 29 + random.nextInt(3) : 1 + random.nextInt(3);
        for (int d = 0; d < defs; d++) {
            text.append("d").append(random.nextInt(40) == 0 ? 0 : d);
            int parameters = near(6);
            for (int i = 0; i < parameters; i++) {
                text.append(" (p").append(random.nextInt(40) == 0 ? 0 : i).append(" : ").append(type(3)).append(")");
            }
            String plain = defs > 5 || random.nextInt(3) > 0 ? "long" : type(3);
            text.append(" : ").append(plain).append(" = ").append(defs > 5 ? "1" : expr(4)).append(";");
        }
        return random.nextInt(30) == 0 ? text.substring(0, random.nextInt(text.length())) : text.toString();
    }

    private String leaf() {
        String[] leaves = {"long", "double", "long", "double", "'a", "long"};
        return leaves[random.nextInt(leaves.length)];
    }

    private String type(int depth) {
        if (depth == 0) {
            return leaf();
        }
        switch (random.nextInt(6)) {
            case 0:
                int brackets = near(20);
                return Check.times(brackets, "(") + type(depth - 1) + Check.times(brackets, ")");
            case 1:
                return Check.times(near(19), leaf() + " -> ") + type(depth - 1);
            case 2:
                return leaf() + Check.times(near(8), " * " + leaf());
            case 3:
                String part = "(" + type(depth - 1) + ")";
                return part + Check.times(near(8), " * " + part);
            case 4:
                return Check.times(near(11), leaf() + Check.times(8, " * long") + " -> ") + leaf();
            default:
                return leaf();
        }
    }

    private String expr(int depth) {
        if (depth == 0) {
            return random.nextInt(9) == 0 ? "p0" : "" + random.nextInt(9);
        }
        switch (random.nextInt(9)) {
            case 0:
                int brackets = near(19);
                return Check.times(brackets, "(") + expr(depth - 1) + Check.times(brackets, ")");
            case 1:
                return Check.times(near(18), "let y = 1 in ") + expr(depth - 1);
            case 2:
                return "(" + Check.times(near(11), "let y = 1 in ") + expr(depth - 1) + ") + ("
                        + Check.times(near(12), "let y = 1 in ") + expr(depth - 1) + ")";
            case 3:
                return "1" + Check.times(near(8), random.nextBoolean() ? " + 1" : " - 1") + " < 1"
                        + Check.times(near(8), " - (" + expr(depth - 1) + ")");
            case 4:
                return "(fn (y : " + type(3) + ") -> " + expr(depth - 1) + ")" + Check.times(near(8), " 1");
            case 5:
                return "if " + expr(depth - 1) + " then " + expr(depth - 1) + " else " + expr(depth - 1);
            case 6:
                return "d0" + Check.times(near(8), " 1");
            case 7:
                return Check.times(near(18), "fst (") + expr(depth - 1) + Check.times(near(18), ", 1)");
            default:
                return expr(depth - 1);
        }
    }
}
