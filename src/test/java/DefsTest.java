/** Promises 6 and 7: defs, def. */
final class DefsTest {
    private static final String ID = "id (x : 'a) : 'a = x; ";

    private final Check check = new Check();

    public static void main(String[] args) {
        DefsTest test = new DefsTest();
        test.defs();
        test.bounds();
        test.parametersAndLetters();
        test.calls();
        test.adapted();
        test.shortWays();
        test.check.end();
    }

    private void defs() {
        BoxedCore core = Check.fed("x : long = 1; y : long = x;");
        check.same("not compiled", 0, core.defs());
        core.compile();
        check.same("compiled", 2, core.defs());
        core.compile();
        check.same("compiled again", 2, core.defs());
        core.feed(1, '$');
        check.same("fed", 0, core.defs());
        core.compile();
        check.same("with a fault", 0, core.defs());
    }

    private void bounds() {
        BoxedCore core = check.compiled("x : long = 1; y : long = x;", 2);
        check.same("the last one", 1, core.def(1, 2));
        for (int d : new int[] {-1, 2, 30, Integer.MIN_VALUE, Integer.MAX_VALUE}) {
            check.outOfBounds("def " + d, () -> core.def(d, 0));
        }
        for (int what : new int[] {-1, 6, Integer.MIN_VALUE, Integer.MAX_VALUE}) {
            check.outOfBounds("what " + what, () -> core.def(0, what));
        }
    }

    /** The six tallies of the last DEF of a text. */
    private void tallies(String text, int... due) {
        BoxedCore core = Check.fed(text);
        int last = core.compile() - 1;
        for (int what = 0; what < 6; what++) {
            check.same("def " + what + " of the last of " + text, due[what], core.def(last, what));
        }
    }

    private void parametersAndLetters() {
        tallies("x : long = 1;", 0, 0, 0, 0, 0, 0);
        tallies("x (a : long) (b : long) (c : long) (d : long) (e : long) (f : long) : long = 1;",
                6, 0, 0, 0, 0, 0);
        tallies("x (p : 'a) (q : 'a * 'c) (r : 'c -> 'a) : 'c * 'a = (snd q, p);",
                3, 2, 0, 0, 0, 0);
        tallies("x (p : 'a * 'b * 'c * 'd) : long = (fn (y : 'a) -> 1) (fst p);", 1, 4, 0, 0, 0, 0);
        tallies("x (p : 'd) : long = 1;", 1, 1, 0, 0, 0, 0);
    }

    private void calls() {
        tallies("z : long = 1; x : long = z + z - z;", 0, 0, 3, 0, 0, 0);
        tallies("z : long -> long = fn (y : long) -> y; x : long = z 4 + (z) (z 5);", 0, 0, 3, 0, 0, 0);
        tallies("p (n : long) : long = n; x (n : long) : long = p (p n) + (fn (y : long) -> p y) 1;",
                1, 0, 3, 0, 0, 0);
        // Calls of locals are none, also those that hide a DEF.
        tallies(ID + "x (id : long -> long) : long = id (id 1);", 1, 0, 0, 0, 0, 0);
        tallies("x (n : long) : long = if n then x (n - 1) else 0;", 1, 0, 1, 0, 0, 0);
    }

    private void adapted() {
        tallies(ID + "x (n : long) : long = id n;", 1, 0, 1, 1, 1, 0);
        tallies(ID + "x (n : 'b) : 'b = id n;", 1, 1, 1, 1, 1, 0);
        tallies("f (x : 'a) (n : long) (y : 'b * long) (g : long -> long) (h : 'a -> long) : long = n; "
                + "x (g : long -> long) : long = f 1 2 (3, 4) g g;", 1, 0, 1, 3, 0, 0);
        tallies("f (x : 'a) : 'a * long = (x, 1); x : long = snd (f #1);", 0, 0, 1, 1, 1, 0);
        tallies(ID + "x (g : long -> long) : long = id g 4;", 1, 0, 1, 1, 1, 0);
        tallies(ID + "x (g : long -> long) : long = id g (id g 4);", 1, 0, 2, 2, 2, 0);
    }

    private void shortWays() {
        tallies(ID + "x (n : long) : long = id (id n);", 1, 0, 2, 1, 1, 1);
        tallies(ID + "x (n : long) : long = id ((id (id n)));", 1, 0, 3, 1, 1, 2);
        // Not just its PARAMETERS, or more than the CALL itself.
        tallies(ID + "x (g : long -> long) : long = id (id g 4);", 1, 0, 2, 2, 2, 0);
        tallies(ID + "x (n : long) : long = id (id n + 0);", 1, 0, 2, 2, 2, 0);
        tallies(ID + "x (n : long) : long = id (let y = id n in y);", 1, 0, 2, 2, 2, 0);
        tallies(ID + "x (n : long) : long = id (if n then id n else id n);", 1, 0, 3, 3, 3, 0);
        // The TYPE of the PARAMETER, or of the DEF within, is more than a LETTER, or less.
        tallies(ID + "f (p : 'a * 'b) : 'a = fst p; x : long = f (id (1, 2));", 0, 0, 2, 2, 2, 0);
        tallies(ID + "f (g : 'a -> 'a) : long = 1; x (g : long -> long) : long = f (id g);",
                1, 0, 2, 2, 1, 0);
        tallies(ID + "f (g : 'a) : long = 1; x (g : long -> long) : long = f (id g);",
                1, 0, 2, 1, 0, 1);
        tallies(ID + "d (x : 'a) : 'a * 'a = (x, x); x : long = fst (id (d 1));", 0, 0, 2, 2, 2, 0);
        tallies(ID + "p (n : long) : long = n; x : long = p (id (p 1));", 0, 0, 3, 1, 1, 0);
        tallies(ID + "k (x : 'a) (y : 'b) : 'b = y; x : double = k (id 1) (k 2 (id #3));",
                0, 0, 4, 3, 1, 3);
    }
}
