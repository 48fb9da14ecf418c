/** Promises 9 and 10: how runs end (STEPS, depth, things, locals), on both sides of each limit. */
final class RunEdgesTest {
    private static final String HELP = "id (x : 'a) : 'a = x; use (x : 'a) : long = 1; z : long = 2; ";
    private static final String FN = "(fn (a : long) -> a)";

    private final Check check = new Check();

    public static void main(String[] args) {
        RunEdgesTest test = new RunEdgesTest();
        test.stepsThatMayBe();
        test.stepsOfEachExpr();
        test.twentyThousandSteps();
        test.wrapAround();
        test.hundredAndFiftyDeep();
        test.hundredAndFiftyDeepWithCovers();
        test.depthBeforeSteps();
        test.fourThousandThings();
        test.theThingThatIsTooMany();
        test.sixtyThousandLocals();
        test.localsAsTheCallBegins();
        test.check.end();
    }

    private void told(BoxedCore core, String what, int... due) {
        for (int i = 0; i < due.length; i++) {
            check.same("told " + i + " of " + what, due[i], core.told(i));
        }
    }

    private void stepsThatMayBe() {
        BoxedCore core = check.compiled("x : long = 1;", 1);
        for (int steps : new int[] {-1, 20001, Integer.MIN_VALUE, Integer.MAX_VALUE}) {
            check.illegalArgument("steps " + steps, () -> core.run(0, false, steps));
        }
        check.same("0 steps", 2, core.run(0, false, 0));
        told(core, "0 steps", 0, 0, 0, 0, 0, 0, 0, 0);
        check.same("1 step", 1, core.run(0, false, 1));
        told(core, "1 step", 1, 0, 0, 0, 0, 0, 1, 0);
        check.same("19999 steps", 1, core.run(0, false, 19999));
        check.same("20000 steps", 1, core.run(0, false, 20000));
        told(core, "20000 steps", 1, 0, 0, 0, 0, 0, 1, 0);
    }

    /** With so many STEPS it ends well, with each number below it does not. */
    private void stepsOfEachExpr() {
        steps("1", 1);
        steps("((1))", 1);
        steps("z", 2);
        steps("let a = 1 in a", 3);
        steps("if 1 then 2 else z", 3);
        steps("if 0 then 2 else z", 4);
        steps("1 + 2", 3);
        steps("1 - 2 + 3", 5);
        steps("1 < 2", 3);
        steps("fst (1, 2)", 4);
        steps("snd (1, z)", 5);
        steps("id 1", 3);
        steps("id (id 1)", 5);
        steps(FN + " 1", 4);
        steps("id " + FN + " 1", 5);
        steps("(id " + FN + ") 1", 6);
        steps("let f = fn (a : long) -> a + a in 1", 3);
        steps("(fn (a : long) -> fn (b : long) -> a) 1 2", 6);
    }

    private void steps(String expr, int due) {
        BoxedCore core = check.compiled(HELP + "x : long = " + expr + ";", 4);
        for (int boxes = 0; boxes < 2; boxes++) {
            check.same("enough for " + expr, 1, core.run(3, boxes == 1, due));
            check.same("steps of " + expr, due, core.told(0));
            for (int fewer = 0; fewer < due; fewer++) {
                check.same(fewer + " for " + expr, 2, core.run(3, boxes == 1, fewer));
                check.same("steps of " + fewer + " for " + expr, fewer, core.told(0));
                check.same("nothing comes of " + expr, -1, core.sort(1));
            }
        }
    }

    private void twentyThousandSteps() {
        // t n takes 3 STEPS for 0, and 11 and twice those of n - 1 for each n more.
        String text = HELP + "t (n : long) : long = if n then t (n - 1) + t (n - 1) else 1; x : long = "
                + "t 10 + t 8 + t 7 + t 4 + ";
        BoxedCore just = check.compiled(text + "t 2 + t z;", 5);
        check.same("20000", 1, just.run(4, false, 20000));
        check.same("20000 told", 20000, just.told(0));
        check.same("19999 are too few", 2, just.run(4, false, 19999));
        check.same("19999 told", 19999, just.told(0));
        BoxedCore over = check.compiled(text + "t z + t z;", 5);
        check.same("20001", 2, over.run(4, false, 20000));
        check.same("20000 were done", 20000, over.told(0));
        check.same("no result", -1, over.sort(1));
    }

    /** Runs x of two longs, as it is and with BOXES. */
    private void word(String expr, long a, long b, long due) {
        BoxedCore core = check.compiled("x (a : long) (b : long) : long = " + expr + ";", 1);
        for (int boxes = 0; boxes < 2; boxes++) {
            core.argument(a);
            core.argument(b);
            check.same("run " + expr, 1, core.run(0, boxes == 1, 20000));
            check.same(a + " " + b + " " + expr, due, core.result(1));
        }
    }

    private void wrapAround() {
        long most = Long.MAX_VALUE;
        long least = Long.MIN_VALUE;
        word("a + b", most, 0, most);
        word("a + b", most, 1, least);
        word("a + b", most, most, -2);
        word("a + b", least, -1, most);
        word("a + b", least, least, 0);
        word("a - b", least, 0, least);
        word("a - b", least, 1, most);
        word("a - b", 0, least, least);
        word("a - b", most, -1, least);
        word("a - b", -1, least, most);
        word("a < b", least, most, 1);
        word("a < b", most, least, 0);
        word("a < b", most - 1, most, 1);
        word("a < b", most, most, 0);
        word("a < b", -1, 0, 1);
        word("a < b", 0, 0, 0);
        word("a < b", 0, -1, 0);
        word("if a then 10 else 20", 0, 0, 20);
        word("if a then 10 else 20", 1, 0, 10);
        word("if a < b then 10 else 20", 4, 5, 10);
        word("if a < b then 10 else 20", 5, 5, 20);
    }

    /** An EXPR of so many levels of its own, worked so that the deepest is at a level. */
    private void deep(String expr, int levels, int level, boolean boxes, int due) {
        BoxedCore core = check.compiled(HELP + "r (n : long) : long = if n then r (n - 1) else " + expr
                + "; y (n : long) : long = r n;", 5);
        boolean odd = (level - levels) % 2 != 0;
        core.argument((level - levels - (odd ? 1 : 2)) / 2);
        String what = expr + " at level " + level;
        check.same(what, due, core.run(odd ? 3 : 4, boxes, 20000));
        check.same("depth of " + what, Math.min(150, level), core.told(6));
        check.same("sort of " + what, due == 1 ? 0 : -1, core.sort(1));
    }

    private void hundredAndFiftyDeep() {
        String[] one = {"1", "n"};
        String[] two = {"z", "1 + 1", "1 - 1", "1 < 1", "let a = 1 in 1", "if n then 1 else 1", "id 1", "use 1",
            FN + " 1", "(fn (a : long) -> 1) n"};
        String[] three = {"fst (1, 1)", "let a = 1 + 1 in 1", "let a = 1 in 1 + 1", "if 1 + 1 then 1 else 1",
            "if n then 1 else 1 + 1", "1 + (1 + 1)", "id (1 + 1)", "id z", "(fn (a : long) -> a + a) 1",
            FN + " (1 + 1)", "(if 1 then " + FN + " else " + FN + ") 1"};
        String[][] all = {one, two, three};
        for (int levels = 1; levels <= 3; levels++) {
            for (String expr : all[levels - 1]) {
                for (int level : new int[] {20, 149, 150, 151, 152}) {
                    deep(expr, levels, level, false, level <= 150 ? 1 : 3);
                    deep(expr, levels, level, true, level <= 150 ? 1 : 3);
                }
            }
        }
    }

    private void hundredAndFiftyDeepWithCovers() {
        // Two COVERS are called between the CALL and the EXPR of the fn.
        String expr = "id " + FN + " 1";
        deep(expr, 2, 150, false, 1);
        deep(expr, 2, 151, false, 3);
        for (int level : new int[] {40, 149, 150, 151, 152, 153}) {
            deep(expr, 4, level, true, level <= 150 ? 1 : 3);
        }
        for (int level = 150; level <= 154; level++) {
            BoxedCore core = check.compiled(HELP + "r (n : long) : long = if n then r (n - 1) else " + expr
                    + "; y (n : long) : long = r n;", 5);
            boolean odd = level % 2 != 0;
            core.argument((level - 4 - (odd ? 1 : 2)) / 2);
            check.same("ending at " + level, level <= 150 ? 1 : 3, core.run(odd ? 3 : 4, true, 20000));
            // The COVER that would be the 151st is not called, nor what it covers.
            check.same("covers called at " + level, Math.max(0, Math.min(2, 153 - level)), core.told(7));
            check.same("deepest at " + level, 150, core.told(6));
        }
    }

    private void depthBeforeSteps() {
        // x calls itself: STEP k is at level k.
        BoxedCore core = check.compiled("x : long = x;", 1);
        for (int boxes = 0; boxes < 2; boxes++) {
            check.same("149 steps", 2, core.run(0, boxes == 1, 149));
            told(core, "149 steps", 149, 0, 0, 0, 0, 0, 149, 0);
            check.same("150 steps", 3, core.run(0, boxes == 1, 150));
            told(core, "150 steps", 150, 0, 0, 0, 0, 0, 150, 0);
            check.same("151 steps", 3, core.run(0, boxes == 1, 151));
            told(core, "151 steps", 150, 0, 0, 0, 0, 0, 150, 0);
        }
    }

    private static String sum(int n, String name) {
        return name + Check.times(n - 1, " + " + name);
    }

    /** DEF 6, base, makes 3995 pairs; then x. */
    private BoxedCore behindThings(String expr) {
        return check.compiled("b : long = let x = (1, (2, (3, (4, (5, 6))))) in 1; c : long = "
                + sum(8, "b") + "; d : long = " + sum(4, "c") + "; e : long = " + sum(5, "d")
                + "; base : long = " + sum(4, "e") + " + (" + sum(4, "d") + " + (" + sum(3, "c") + ") + "
                + sum(4, "b") + ") + (" + sum(3, "b") + "); " + HELP
                + "k (x : 'a) (y : 'b) : long = 1; sw (p : 'a * 'b) : 'b * 'a = (snd p, fst p); "
                + "x : long = base + (" + expr + ");", 11);
    }

    private void things(String expr, boolean boxes, int number) {
        BoxedCore core = behindThings(expr);
        check.same("ending behind 3995: " + expr, 3995 + number <= 4000 ? 1 : 4, core.run(10, boxes, 20000));
        check.same("made behind 3995: " + expr, Math.min(4000, 3995 + number),
                core.told(1) + core.told(3) + core.told(4) + core.told(5));
        check.same("sort behind 3995: " + expr, 3995 + number <= 4000 ? 0 : -1, core.sort(1));
    }

    private void fourThousandThings() {
        String five = "(1, (2, (3, (4, (5, 6)))))";
        things("1", false, 0);
        things("let p = " + five + " in 1", false, 5);
        things("let p = (0, " + five + ") in 1", false, 6);
        String fns = "let f = " + FN + " in ";
        things(Check.times(5, fns) + "1", false, 5);
        things(Check.times(6, fns) + "1", false, 6);
        things(sum(5, "use 1"), false, 0);
        things(sum(5, "use 1"), true, 5);
        things(sum(6, "use 1"), true, 6);
        things(sum(5, "use #1"), true, 5);
        things(sum(6, "use #1"), true, 6);
        things(fns + sum(4, "use f"), true, 5);
        things(fns + sum(5, "use f"), true, 6);
        things(fns + sum(5, "use f"), false, 1);
        // One of each kind and more: they are counted together.
        things("let p = (1, 2) in " + fns + "use f + use 1 + use 1", true, 5);
        things("let p = (1, 2) in " + fns + "use f + use 1 + use 1 + use 1", true, 6);
        things("fst (id (1, 2))", true, 5);
        things("fst (id (1, 2)) + use 1", true, 6);
        things("fst (sw (1, 2))", true, 6);
        things("fst (sw (1, 2))", false, 2);
        // A COVER that a COVER makes as it is called is one, too.
        things("id (fn (a : long) -> a) 1", true, 5);
        things("id (fn (a : long) -> a) 1 + use 1", true, 6);
    }

    /** What was made and done before the 4001st, which itself is not made. */
    private void theThingThatIsTooMany() {
        BoxedCore core = behindThings("1");
        core.run(10, true, 20000);
        int steps = core.told(0);
        // Both parts of a pair come first, then the pair.
        core = behindThings("let p = (0, (1, (2, (3, (4, (5, 6)))))) in 1");
        check.same("pair", 4, core.run(10, false, 20000));
        told(core, "pair", steps + 13, 0, 0, 0, 4000, 0);
        // id (1, 2): a pair, two BOXES and a pair; then, opened, a pair.
        core = behindThings("use 1 + fst (id (1, 2))");
        check.same("opening", 4, core.run(10, true, 20000));
        told(core, "opening", steps + 9, 3, 2, 0, 3997, 0);
        core = behindThings("use 1 + use 1 + fst (id (1, 2))");
        check.same("boxing a pair", 4, core.run(10, true, 20000));
        told(core, "boxing a pair", steps + 12, 4, 0, 0, 3996, 0);
        core = behindThings("use 1 + use 1 + use 1 + fst (id (1, 2))");
        check.same("boxing its second part", 4, core.run(10, true, 20000));
        told(core, "boxing its second part", steps + 16, 4, 0, 0, 3996, 0);
        // Each argument is boxed at once: the second ATOM is not worked.
        core = behindThings("use 1 + use 1 + use 1 + use 1 + use 1 + k 1 (1 + 1)");
        check.same("first argument", 4, core.run(10, true, 20000));
        told(core, "first argument", steps + 21, 5, 0, 0, 3995, 0);
    }

    /** The DEF before the last, base, calls so many DEFS of 24 locals; then x. */
    private BoxedCore behindLocals(String defs, String expr) {
        return check.compiled("w : long = " + locals(24) + "; a : long = " + sum(5, "w")
                + "; b : long = " + sum(5, "a") + "; c : long = " + sum(5, "b") + "; d : long = "
                + sum(5, "c") + "; base : long = " + sum(3, "d") + " + (" + sum(4, "c") + ") + (" + sum(4, "b")
                + " + (" + sum(4, "a") + ") + (" + sum(4, "w") + ")); " + defs + "x : long = base + ("
                + expr + ");", 7 + defs.split(";", -1).length - 1);
    }

    /** An EXPR with so many locals, none of which is ever bound. */
    private static String locals(int number) {
        String let = "let q = 1 in ";
        return "if 1 then 1 else (" + Check.times(number / 2, let) + "1) + ("
                + Check.times(number - number / 2, let) + "1)";
    }

    private void ends(String defs, String expr, int due) {
        BoxedCore core = behindLocals(defs, expr);
        for (int boxes = 0; boxes < 2; boxes++) {
            check.same("ending of " + defs + expr, due, core.run(core.defs() - 1, boxes == 1, 20000));
            check.same("sort of " + defs + expr, due == 1 ? 0 : -1, core.sort(1));
        }
    }

    private void sixtyThousandLocals() {
        // base has 2499 calls with 24 locals: 24 are left.
        String u22 = "u : long = " + locals(22) + "; ";
        String u23 = "u : long = " + locals(23) + "; ";
        String v = "v : long = let q = 7 in q; ";
        String f = "f : long = (fn (q : long) -> q) 7; ";
        String p = "p (q : long) : long = q; ";
        ends("", "1", 1);
        ends("", "w", 1);
        ends("", "w + 1", 1);
        ends("", "w + w", 4);
        ends(v, "w + v", 4);
        ends(u23 + v, "u", 1);
        ends(u23 + v, "u + v", 1);
        ends(u23 + v, "u + v + v", 4);
        ends(u23 + p, "u + p 7", 1);
        ends(u23 + p, "u + p 7 + p 7", 4);
        // A fn has as many as its DEF: f takes two in all.
        ends(u22 + f, "u + f", 1);
        ends(u23 + f, "u + f", 4);
        // DEFS without locals may still be called.
        ends("o : long = 1; ", "w + o + o + o", 1);
        // The DEF that is run counts, too.
        ends("", "let q = 1 in 1", 1);
        ends("", "let q = w in 1", 4);
    }

    private void localsAsTheCallBegins() {
        BoxedCore core = behindLocals("", "1");
        core.run(core.defs() - 1, false, 20000);
        int steps = core.told(0);
        core = behindLocals("p (q : long) : long = q; ", "w + p (1 + 1)");
        check.same("behind its ATOMS", 4, core.run(core.defs() - 1, false, 20000));
        check.same("which were worked", steps + 8, core.told(0));
        check.same("no STEP is wanted for it", 4, core.run(core.defs() - 1, false, steps + 8));
        check.same("one too few", 2, core.run(core.defs() - 1, false, steps + 7));
        String u23 = "u : long = " + locals(23) + "; f : long = (fn (q : long) -> q) 7; ";
        core = behindLocals(u23, "u + f");
        check.same("of the fn", 4, core.run(core.defs() - 1, false, 20000));
        check.same("which was made", 1, core.told(5));
        check.same("with its argument worked", steps + 8, core.told(0));
    }
}
