/** Promises 9 and 10: where BOXES are made and opened, values adapted, COVERS called. */
final class BoxesTest {
    private static final String ID = "id (x : 'a) : 'a = x; ";
    private static final String INC = "(fn (y : long) -> y + 1)";

    private final Check check = new Check();

    public static void main(String[] args) {
        BoxesTest test = new BoxesTest();
        test.numbers();
        test.pairs();
        test.functions();
        test.patterns();
        test.results();
        test.lettersStay();
        test.shortWays();
        test.coversTakeDepth();
        test.orderOfThings();
        test.check.end();
    }

    /** Runs the last DEF both ways; due are the counts with BOXES, from STEPS to COVER calls. */
    private void counts(String text, long result, int... due) {
        BoxedCore core = Check.fed(text);
        int last = core.compile() - 1;
        check.same("as it is: " + text, 1, core.run(last, false, 20000));
        check.same("result of " + text, result, core.result(1));
        check.same("steps of " + text, due[0], core.told(0));
        for (int what : new int[] {1, 2, 3, 7}) {
            check.same("as it is, told " + what + " of " + text, 0, core.told(what));
        }
        check.same("with BOXES: " + text, 1, core.run(last, true, 20000));
        check.same("result with BOXES of " + text, result, core.result(1));
        for (int what = 0; what < 8; what++) {
            check.same("told " + what + " of " + text, due[what], core.told(what));
        }
    }

    private void numbers() {
        counts(ID + "x : long = id 7;", 7, 3, 1, 1, 0, 0, 0, 2, 0);
        counts(ID + "x : double = id #7;", 7, 3, 1, 1, 0, 0, 0, 2, 0);
        counts("p (n : long) : long = n; x : long = p 7;", 7, 3, 0, 0, 0, 0, 0, 2, 0);
        counts("k (x : 'a) (n : long) : 'a = x; x : long = k 7 8;", 7, 4, 1, 1, 0, 0, 0, 2, 0);
        counts("k (x : 'a) (n : 'b) : long = 5; x : long = k 7 8;", 5, 4, 2, 0, 0, 0, 0, 2, 0);
        counts(ID + "x : long = id 7 + id 8;", 15, 7, 2, 2, 0, 0, 0, 3, 0);
    }

    private void pairs() {
        counts(ID + "x : long * long = id (1, 2);", 0, 5, 2, 2, 0, 3, 0, 3, 0);
        counts(ID + "x : (long * double) * long = id ((1, #1), 2);", 0, 7, 3, 3, 0, 6, 0, 4, 0);
        counts("d (x : 'a) : 'a * 'a = (x, x); x : long = fst (d 7);", 7, 6, 1, 2, 0, 2, 0, 4, 0);
    }

    private void functions() {
        counts(ID + "x : long = id " + INC + " 4;", 5, 7, 2, 2, 2, 0, 1, 5, 2);
        counts(ID + "x : long -> long = id " + INC + ";", 0, 3, 0, 0, 2, 0, 1, 2, 0);
        // A function that answers a function: COVERS are made as it is called.
        counts(ID + "x : long = id (fn (y : long) -> fn (z : long) -> y - z) 9 2;", 7,
                9, 3, 3, 4, 0, 2, 5, 4);
        counts(ID + "x : long = (snd (id (5, " + INC + "))) 4;", 5, 11, 3, 3, 2, 3, 1, 5, 2);
    }

    private void patterns() {
        counts("sw (p : 'a * 'b) : 'b * 'a = (snd p, fst p); x : long * double = sw (#1, 2);", 0,
                9, 2, 2, 0, 4, 0, 4, 0);
        // Parts without a LETTER stay.
        counts("f (p : 'a * long) : long = snd p; x : long = f (1, 2);", 2, 6, 1, 0, 0, 2, 0, 3, 0);
        counts("f (p : 'a * (long * long)) : long = fst (snd p); x : long = f (1, (2, 3));", 2,
                9, 1, 0, 0, 3, 0, 4, 0);
        counts("f (p : long * long) (x : 'a) : long = fst p; x : long = f (1, 2) 3;", 1,
                7, 1, 0, 0, 1, 0, 3, 0);
        counts("f (g : long -> long) (x : 'a) : long = g 1; x : long = f " + INC + " 3;", 2,
                9, 1, 0, 0, 0, 1, 4, 0);
        counts("ap (f : 'a -> long) (x : 'a) : long = f x; x : long = ap " + INC + " 4;", 5,
                9, 1, 1, 1, 0, 1, 5, 1);
        counts("ap (f : long -> 'a) : 'a = f 4; x : long = ap " + INC + ";", 5,
                8, 1, 1, 1, 0, 1, 5, 1);
        counts("ap (f : 'a -> 'b) (x : 'a) : 'b = f x; x : long = ap " + INC + " 4;", 5,
                9, 2, 2, 1, 0, 1, 5, 1);
        // What a function takes is adapted the other way.
        counts("c (k : ('a -> long) -> long) (x : 'a) : long = k (fn (y : 'a) -> 1); "
                + "x : long = c (fn (h : long -> long) -> h 5) 9;", 1, 10, 2, 0, 2, 0, 2, 6, 2);
        // The result is adapted back: it comes boxed and is opened, what it takes is boxed.
        counts("k (x : 'a) (z : 'b) : 'b -> 'a = fn (y : 'b) -> x; x : long = k 3 #1 #2;", 3,
                6, 3, 1, 1, 0, 1, 3, 1);
    }

    /** Of a result only the parts that have a LETTER are adapted back. */
    private void results() {
        counts("f (x : 'a) : 'a * long = (x, 8); x : long = snd (f 7);", 8, 6, 1, 1, 0, 2, 0, 4, 0);
        counts("f (x : 'a) : long * long = (7, 8); x : long = snd (f 7);", 8, 6, 1, 0, 0, 1, 0, 4, 0);
        counts("g (x : 'a) : long -> 'a = fn (y : long) -> x; x : long = g 7 8;", 7, 5, 1, 1, 1, 0, 1, 3, 1);
        counts("g (x : 'a) : 'a -> long = fn (y : 'a) -> 5; x : long = g 7 8;", 5, 5, 2, 0, 1, 0, 1, 3, 1);
        counts("g (x : 'a) : long -> long = fn (y : long) -> y; x : long = g 7 8;", 8, 5, 1, 0, 0, 0, 1, 2, 0);
        counts("g (x : 'a) : long * (long -> 'a) = (5, fn (y : long) -> x); x : long = (snd (g 7)) 8;", 7,
                9, 1, 1, 1, 2, 1, 5, 1);
    }

    private void lettersStay() {
        counts(ID + "g (x : 'b) : 'b = id x; x : long = g 1;", 1, 5, 1, 1, 0, 0, 0, 3, 0);
        counts(ID + "h (x : 'b) : 'b * 'b = id (x, x); x : long = fst (h 7);", 7,
                8, 1, 2, 0, 4, 0, 5, 0);
        counts(ID + "g (f : 'b -> 'b) (x : 'b) : 'b = id f x; x : long = g " + INC + " 4;", 5,
                10, 2, 2, 3, 0, 1, 7, 3);
    }

    private void shortWays() {
        counts(ID + "x : long = id (id (id 7));", 7, 7, 1, 1, 0, 0, 0, 4, 0);
        counts(ID + "x : long = id (id 7 + 0);", 7, 7, 2, 2, 0, 0, 0, 4, 0);
        counts(ID + "x : long * long = id (id (1, 2));", 0, 7, 2, 2, 0, 3, 0, 4, 0);
        counts(ID + "x : long = id (id " + INC + ") 4;", 5, 9, 2, 2, 2, 0, 1, 5, 2);
        counts(ID + "x : long = id (id " + INC + " 4);", 5, 9, 3, 3, 2, 0, 1, 6, 2);
    }

    private void coversTakeDepth() {
        // The EXPR of the fn lies within 2 n + 3 EXPRS and n + 1 calls of COVERS.
        BoxedCore core = check.compiled("w (f : 'a -> 'a) (n : long) (x : 'a) : 'a = "
                + "if n then w f (n - 1) x else f x; "
                + "x (n : long) : long = w (fn (y : long) -> y) n 7;", 2);
        core.argument(48);
        check.same("149 deep", 1, core.run(1, true, 20000));
        int[] due = {10 + 48 * 8, 2, 2, 49, 0, 1, 149, 49};
        for (int what = 0; what < 8; what++) {
            check.same("149 deep, told " + what, due[what], core.told(what));
        }
        core.argument(49);
        check.same("as it is", 1, core.run(1, false, 20000));
        check.same("as it is, depth", 102, core.told(6));
        core.argument(49);
        check.same("one COVER too many", 3, core.run(1, true, 20000));
        int[] deep = {9 + 49 * 8, 1, 0, 50, 0, 1, 150, 49};
        for (int what = 0; what < 8; what++) {
            check.same("too deep, told " + what, deep[what], core.told(what));
        }
        core.argument(49);
        check.same("no STEP is needed to be too deep", 3, core.run(1, true, 9 + 49 * 8));
    }

    private void orderOfThings() {
        // Each argument is adapted at once, before the next ATOM is worked.
        BoxedCore core = check.compiled("k (x : 'a) (y : 'a) : 'a = x; x : long = k 1 2;", 2);
        check.same("out of steps", 2, core.run(1, true, 2));
        check.same("the first is boxed", 1, core.told(1));
        check.same("out of steps later", 2, core.run(1, true, 3));
        check.same("both are boxed", 2, core.told(1));
        check.same("none is opened", 0, core.told(2));
        check.same("all steps", 1, core.run(1, true, 4));
        check.same("one is opened", 1, core.told(2));
        // What goes through a COVER is adapted before what it covers is called, the result behind.
        core = check.compiled(ID + "x : long = id " + INC + " 4;", 2);
        int[][] due = {{4, 1, 1, 2}, {5, 1, 1, 2}, {6, 1, 1, 2}, {7, 2, 2, 2}};
        for (int[] counts : due) {
            check.same("with so many steps", counts[0] < 7 ? 2 : 1, core.run(1, true, counts[0]));
            check.same("boxes of " + counts[0], counts[1], core.told(1));
            check.same("opened of " + counts[0], counts[2], core.told(2));
            check.same("covers called of " + counts[0], counts[3], core.told(7));
        }
        // The ATOM comes before the function that is before it is called.
        check.same("no ATOM yet", 2, core.run(1, true, 3));
        check.same("no COVER is called", 0, core.told(7));
        check.same("but both are made", 2, core.told(3));
    }
}
