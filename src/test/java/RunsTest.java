/** Promises 8 to 10: argument, run, told; how EXPRS are worked, and how runs end. */
final class RunsTest {
    private final Check check = new Check();

    public static void main(String[] args) {
        RunsTest test = new RunsTest();
        test.arguments();
        test.whatRunRefuses();
        test.whatIsRefusedFirst();
        test.argumentsAreUsedUp();
        test.tolds();
        test.values();
        test.scopes();
        test.steps();
        test.outOfSteps();
        test.tooDeep();
        test.tooManyThings();
        test.tooManyLocals();
        test.check.end();
    }

    private void arguments() {
        BoxedCore core = new BoxedCore();
        for (int i = 1; i <= 6; i++) {
            check.same("argument " + i, i, core.argument(i));
        }
        check.illegalState("seventh", () -> core.argument(7));
        check.illegalState("seventh again", () -> core.argument(7));
        core.wipe();
        check.same("after wipe", 1, core.argument(1));
        String six = "x (a : long) (b : double) (c : long) (d : long) (e : long) (f : long)"
                + " : (long * double) * (long * long) * (long * long) = ((a, b), ((c, d), (e, f)));";
        BoxedCore all = check.compiled(six, 1);
        for (int i = 1; i <= 6; i++) {
            all.argument(i * 11);
        }
        check.illegalState("no seventh", () -> all.argument(7));
        check.same("run", 1, all.run(0, false, 100));
        int[] ways = {4, 5, 12, 13, 14, 15};
        for (int i = 0; i < 6; i++) {
            check.same("in order " + i, (i + 1) * 11, all.result(ways[i]));
            check.same("sort " + i, i == 1 ? 1 : 0, all.sort(ways[i]));
        }
    }

    private void whatRunRefuses() {
        BoxedCore core = check.compiled("x (n : long) : long = n; p (n : long * long) : long = 1; "
                + "f (n : long -> long) : long = 1; a (n : 'a) : long = 1; "
                + "m (n : long) (o : 'a) : long = 1; d (n : double) : double = n;", 6);
        check.outOfBounds("-1", () -> core.run(-1, false, 1));
        check.outOfBounds("6", () -> core.run(6, false, 1));
        check.outOfBounds("great", () -> core.run(Integer.MAX_VALUE, false, 1));
        check.illegalArgument("too few", () -> core.run(0, false, 1));
        core.argument(5);
        check.illegalArgument("steps -1", () -> core.run(0, false, -1));
        check.illegalArgument("steps 20001", () -> core.run(0, false, 20001));
        check.illegalArgument("steps least", () -> core.run(0, true, Integer.MIN_VALUE));
        check.illegalArgument("a pair", () -> core.run(1, false, 1));
        check.illegalArgument("a function", () -> core.run(2, false, 1));
        check.illegalArgument("a LETTER", () -> core.run(3, false, 1));
        core.argument(6);
        check.illegalArgument("too many", () -> core.run(0, false, 1));
        check.illegalArgument("a LETTER behind", () -> core.run(4, false, 1));
        check.same("the arguments stay", 3, core.argument(7));
        BoxedCore fresh = check.compiled("x (n : long) : long = n; d (n : double) : double = n;", 2);
        fresh.argument(-5);
        check.same("20000 steps", 1, fresh.run(0, false, 20000));
        check.same("result", -5, fresh.result(1));
        fresh.argument(-5);
        check.same("a double", 1, fresh.run(1, true, 1));
        check.same("its sort", 1, fresh.sort(1));
        check.same("its bits", -5, fresh.result(1));
        BoxedCore fault = Check.fed("x : long = #1;");
        fault.compile();
        check.outOfBounds("a text with a fault", () -> fault.run(0, false, 1));
        BoxedCore raw = Check.fed("x : long = 1;");
        check.outOfBounds("not compiled", () -> raw.run(0, false, 1));
    }

    private void whatIsRefusedFirst() {
        BoxedCore core = check.compiled("x (n : long * long) : long = 1;", 1);
        check.outOfBounds("no DEF, and no steps", () -> core.run(1, false, -1));
        check.outOfBounds("no DEF, and no arguments", () -> core.run(-1, false, 20001));
        check.illegalArgument("a pair, and no arguments", () -> core.run(0, false, 10));
    }

    private void argumentsAreUsedUp() {
        BoxedCore core = check.compiled("x (n : long) : long = n; y : long = 8;", 2);
        core.argument(5);
        check.illegalArgument("not for y", () -> core.run(1, false, 10));
        check.same("for x", 1, core.run(0, false, 10));
        check.same("it had the first one", 5, core.result(1));
        check.same("none left", 1, core.run(1, false, 10));
        core.argument(6);
        check.same("used up also by a run that ends badly", 2, core.run(0, false, 0));
        check.same("none left then", 1, core.run(1, false, 10));
        check.same("the next is the first", 1, core.argument(1));
    }

    private void tolds() {
        BoxedCore core = check.compiled("x : long = fst (1, 2); y : long = 1;", 2);
        for (int what = 0; what < 8; what++) {
            check.same("before a run " + what, 0, core.told(what));
        }
        for (int what : new int[] {-1, 8, Integer.MIN_VALUE, Integer.MAX_VALUE}) {
            check.outOfBounds("told " + what, () -> core.told(what));
        }
        core.run(0, false, 10);
        told(core, "pair", 4, 0, 0, 0, 1, 0, 3, 0);
        core.compile();
        told(core, "compiled again", 4, 0, 0, 0, 1, 0, 3, 0);
        check.illegalArgument("throws", () -> core.run(0, false, -1));
        told(core, "after a run that throws", 4, 0, 0, 0, 1, 0, 3, 0);
        core.run(1, true, 10);
        told(core, "another run", 1, 0, 0, 0, 0, 0, 1, 0);
    }

    private void told(BoxedCore core, String text, int... due) {
        for (int what = 0; what < due.length; what++) {
            check.same("told " + what + " of " + text, due[what], core.told(what));
        }
    }

    /** The last DEF of a text, with and without BOXES, must answer a long. */
    private void value(String text, long due, long... arguments) {
        BoxedCore core = Check.fed(text);
        int last = core.compile() - 1;
        for (int boxes = 0; boxes < 2; boxes++) {
            for (long argument : arguments) {
                core.argument(argument);
            }
            check.same("run of " + text, 1, core.run(last, boxes == 1, 20000));
            check.same("result of " + text, due, core.result(1));
        }
    }

    private void values() {
        value("x : long = 1 + 2 - 3 - 4;", -4);
        value("x : long = 1 - (2 - 3);", 2);
        value("x (n : long) : long = n + 1;", Long.MIN_VALUE, Long.MAX_VALUE);
        value("x (n : long) : long = n - 1;", Long.MAX_VALUE, Long.MIN_VALUE);
        value("x (a : long) (b : long) : long = a < b;", 1, -1, 0);
        value("x (a : long) (b : long) : long = a < b;", 0, 0, -1);
        value("x (a : long) (b : long) : long = a < b;", 0, 3, 3);
        value("x (a : long) (b : long) : long = a < b;", 1, Long.MIN_VALUE, Long.MAX_VALUE);
        value("x (a : long) (b : long) : long = a + 1 < b - 1;", 1, 1, 4);
        value("x (n : long) : long = if n then 10 else 20;", 20, 0);
        value("x (n : long) : long = if n then 10 else 20;", 10, 1);
        value("x (n : long) : long = if n then 10 else 20;", 10, -7);
        value("x (n : long) : long = if n then 10 else 20;", 10, 1L << 32);
        value("x : long = fst (1, 2) - snd (3, 4);", -3);
        value("x : long = let a = 2 in let b = a + a in b + a;", 6);
        value("x : long = (fn (a : long) -> fn (b : long) -> a - b) 9 2;", 7);
        value("f : long -> long -> long = fn (a : long) -> fn (b : long) -> a - b; x : long = f 9 2;", 7);
        value("k (x : 'a) (y : 'b) : 'a = x; x : long = k (fn (a : long) -> a + 1) #0 41;", 42);
        value("s (n : long) : long = if n < 1 then 0 else n + s (n - 1);", 300, 24);
        value("e (n : long) : long = if n < 1 then 1 else o (n - 1); "
                + "o (n : long) : long = if n < 1 then 0 else e (n - 1);", 1, 31);
    }

    private void scopes() {
        value("x (a : long) : long = (let a = a + 1 in a) + a;", 11, 5);
        value("x (a : long) : long = (fn (a : long) -> a + a) (a + 1) + a;", 17, 5);
        value("x : long = let a = 1 in let f = fn (b : long) -> a + b in let a = 100 in f a;", 101);
        // A function has the locals as they were, also when its DEF or itself is called again.
        value("add (n : long) : long -> long = fn (m : long) -> n + m; "
                + "x : long = let f = add 1 in let g = add 100 in f 10 + g 1000 + f 0;", 1112);
        value("x : long = let f = fn (a : long) -> fn (b : long) -> (a - b) in "
                + "let g = f 10 in let h = f 20 in g 1 + h 2 + g 3;", 34);
        value("x : long = let f = fn (a : long) -> let b = a + a in fn (c : long) -> b + c in "
                + "let g = f 1 in let h = f 2 in g 10 + h 20;", 36);
        value("tw (f : 'a -> 'a) (x : 'a) : 'a = f (f x); "
                + "x : long = tw (fn (f : long) -> tw (fn (x : long) -> x + f) f) 1;", 9);
    }

    private void counts(String text, int steps, int deep) {
        BoxedCore core = Check.fed(text);
        int last = core.compile() - 1;
        check.same("just enough for " + text, 1, core.run(last, false, steps));
        check.same("steps of " + text, steps, core.told(0));
        check.same("depth of " + text, deep, core.told(6));
        check.same("one too few for " + text, 2, core.run(last, true, steps - 1));
        check.same("steps of what ended so", steps - 1, core.told(0));
    }

    private void steps() {
        counts("x : long = 1;", 1, 1);
        counts("x : long = (((1)));", 1, 1);
        counts("x : long = 1 + 2 - 3;", 5, 3);
        counts("x : long = 1 < 2;", 3, 2);
        counts("x : long = let a = 1 in a;", 3, 2);
        counts("x : long = if 1 then 2 else 3 + 4;", 3, 2);
        counts("x : long = if 0 then 2 else 3 + 4;", 5, 3);
        counts("x : long -> long = fn (a : long) -> a + 1;", 1, 1);
        counts("x : long * long = (1, 2);", 3, 2);
        counts("x : long = snd (1, 2);", 4, 3);
        // A CALL and all its ATOMS, with the EXPR of what is called; no NAME of a DEF.
        counts("f (a : long) : long = a; x : long = f 1;", 3, 2);
        counts("f (a : long) : long = a; x : long = f (f 1);", 5, 3);
        counts("f (a : long) (b : long) : long = a + b; x : long = f 1 2;", 6, 3);
        counts("z : long = 1; x : long = z;", 2, 2);
        counts("x : long = (fn (a : long) -> a) 1;", 4, 2);
        counts("x : long = (fn (a : long) -> fn (b : long) -> a) 1 2;", 6, 2);
        counts("f : long -> long = fn (a : long) -> a; x : long = f 1;", 5, 3);
        counts("f (a : long) : long -> long = fn (b : long) -> a; x : long = f 1 2;", 5, 2);
        counts("id (x : 'a) : 'a = x; x : long = id (fn (a : long) -> a) 1;", 5, 2);
    }

    private void outOfSteps() {
        BoxedCore core = check.compiled("x : long = x + 1;", 1);
        check.same("none at all", 2, core.run(0, false, 0));
        told(core, "none at all", 0, 0, 0, 0, 0, 0, 0, 0);
        check.same("one", 2, core.run(0, false, 1));
        told(core, "one", 1, 0, 0, 0, 0, 0, 1, 0);
        check.same("two", 2, core.run(0, false, 2));
        told(core, "two", 2, 0, 0, 0, 0, 0, 2, 0);
        check.same("no result", -1, core.sort(1));
        BoxedCore tree = check.compiled("t (n : long) : long = if n then t (n - 1) + t (n - 1) else 1;", 1);
        tree.argument(20);
        check.same("20000", 2, tree.run(0, false, 20000));
        check.same("all of them done", 20000, tree.told(0));
    }

    private void tooDeep() {
        // Level k: the CALL and then its ATOM one deeper; the ATOM of the 150th is too deep.
        BoxedCore core = check.compiled("f (n : long) : long = f n;", 1);
        core.argument(1);
        check.same("deep", 3, core.run(0, false, 20000));
        told(core, "deep", 299, 0, 0, 0, 0, 0, 150, 0);
        core.argument(1);
        check.same("3 before 2", 3, core.run(0, false, 299));
        told(core, "3 before 2", 299, 0, 0, 0, 0, 0, 150, 0);
        core.argument(1);
        check.same("2 comes first", 2, core.run(0, false, 298));
        told(core, "2 comes first", 298, 0, 0, 0, 0, 0, 150, 0);
        BoxedCore names = check.compiled("x : long = x;", 1);
        check.same("names", 3, names.run(0, true, 20000));
        told(names, "names", 150, 0, 0, 0, 0, 0, 150, 0);
        // s n needs 3 n + 3 levels: 150 for 49.
        BoxedCore just = check.compiled("s (n : long) : long = if n < 1 then 0 else n + s (n - 1);", 1);
        just.argument(49);
        check.same("just", 1, just.run(0, false, 20000));
        check.same("its depth", 150, just.told(6));
        check.same("its result", 1225, just.result(1));
        just.argument(50);
        check.same("no more", 3, just.run(0, false, 20000));
        check.same("no deeper", 150, just.told(6));
        check.same("nothing comes of it", -1, just.sort(1));
    }

    private static String sum(int n, String name) {
        return name + Check.times(n - 1, " + " + name);
    }

    private void tooManyThings() {
        String text = "b : long = let x = (1, (2, (3, (4, (5, 6))))) in 1; c : long = " + sum(8, "b")
                + "; d : long = " + sum(4, "c") + "; e : long = " + sum(5, "d") + "; f : long = "
                + sum(5, "e") + "; g : long = f + fst (1, 2); h : long = f + (fn (x : long) -> x) 1; "
                + "id (x : 'a) : 'a = x; i : long = f + id 1; j : long = f + fst (id ((1, 2)));";
        BoxedCore core = check.compiled(text, 10);
        check.same("4000 pairs", 1, core.run(4, false, 20000));
        check.same("4000 pairs told", 4000, core.told(4));
        check.same("800", 800, core.result(1));
        int steps = core.told(0);
        check.same("4001st, a pair", 4, core.run(5, false, 20000));
        told(core, "4001st, a pair", steps + 6, 0, 0, 0, 4000, 0, 31, 0);
        check.same("nothing comes of it", -1, core.sort(1));
        check.same("4001st, a function", 4, core.run(6, false, 20000));
        told(core, "4001st, a function", steps + 4, 0, 0, 0, 4000, 0, 31, 0);
        check.same("no BOX", 1, core.run(8, false, 20000));
        check.same("4001st, a BOX", 4, core.run(8, true, 20000));
        told(core, "4001st, a BOX", steps + 4, 0, 0, 0, 4000, 0, 31, 0);
        check.same("4001st, a pair before boxes", 4, core.run(9, true, 20000));
        told(core, "4001st, a pair before boxes", steps + 7, 0, 0, 0, 4000, 0, 31, 0);
    }

    private void tooManyLocals() {
        String lets = Check.times(12, "let x = 1 in ") + "1";
        String w = "w : long = if 0 then (" + lets + ") + (" + lets + ") else 1; ";
        String text = w + "a : long = " + sum(5, "w") + "; b : long = " + sum(5, "a") + "; c : long = "
                + sum(5, "b") + "; d : long = " + sum(5, "c") + "; e : long = " + sum(4, "d")
                + "; f : long = e + w; g : long = let x = e in x; h : long = e + 1;";
        BoxedCore core = check.compiled(text, 9);
        check.same("60000 locals", 1, core.run(5, false, 20000));
        check.same("2500", 2500, core.result(1));
        int steps = core.told(0);
        check.same("24 more", 4, core.run(6, false, 20000));
        check.same("it is told as the call begins", steps + 3, core.told(0));
        check.same("one more, of the DEF that is run", 4, core.run(7, false, 20000));
        check.same("DEFS without locals may be called", 1, core.run(8, false, 20000));
        fnsHaveTheLocalsOfTheirDef();
    }

    private void fnsHaveTheLocalsOfTheirDef() {
        // One DEF with 24 locals, one of them of a fn that is called 9 times: 240 in all.
        String text = "w : long = let f = fn (x : long) -> 1 in if 0 then ("
                + Check.times(11, "let x = 1 in ") + "1) + (" + Check.times(11, "let x = 1 in ")
                + "1) else " + sum(9, "f 0") + "; a : long = " + sum(5, "w") + "; b : long = "
                + sum(5, "a") + "; c : long = " + sum(5, "b") + "; d : long = c + c; e : long = d + w;";
        BoxedCore core = check.compiled(text, 6);
        check.same("250 times 240 locals", 1, core.run(4, false, 20000));
        check.same("2250", 2250, core.result(1));
        check.same("250 functions", 250, core.told(5));
        check.same("24 more", 4, core.run(5, true, 20000));
        check.same("250 functions still", 250, core.told(5));
    }
}
