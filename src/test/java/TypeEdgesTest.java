/** Promises 4 to 7: FAULTS 5 to 7 and what def tells, on both sides of each boundary. */
final class TypeEdgesTest {
    /** h has a TYPE of 100, k of 99. */
    private static final String GREAT = "h : " + great(100) + " = h; k : " + great(99) + " = k; "
            + "two (x : 'a) (y : 'b) : 'a * 'b = (x, y); dup (x : 'a) : 'a * 'a = (x, x); "
            + "fun (x : 'a) (y : 'b) : 'a -> 'b = fn (z : 'a) -> y; id (x : 'a) : 'a = x; ";

    private final Check check = new Check();

    public static void main(String[] args) {
        TypeEdgesTest test = new TypeEdgesTest();
        test.namesOfDefs();
        test.namesOfParameters();
        test.lettersOfResults();
        test.lettersOfFns();
        test.firstOfTheClashes();
        test.scopes();
        test.twoHundred();
        test.atomsOfDefs();
        test.atomsOfFunctions();
        test.ownTypeOfADef();
        test.lettersCounted();
        test.callsCounted();
        test.thirtyDefs();
        test.check.end();
    }

    /** A TYPE of so many of long and double. */
    private static String great(int leaves) {
        StringBuilder type = new StringBuilder();
        for (int i = 0; i < leaves; i++) {
            type.append(i == 0 ? "" : i % 9 == 0 ? " -> " : " * ").append(i % 2 == 0 ? "long" : "double");
        }
        return type.toString();
    }

    private void namesOfDefs() {
        check.compiled("x : long = 1; y : long = 1; xx : long = 1; x1 : long = 1;", 4);
        check.faultAt("x : long = 1; @x : long = 1;", 5);
        check.faultAt("x : long = 1; y : long = 1; z : long = 1; @x : double = #1;", 5);
        check.faultAt("x : long = 1; y : long = 1; @y (a : long) : long = 1; x : long = 1;", 5);
        check.faultAt("abcdefghij : long = 1; @abcdefghij : long = 1;", 5);
        check.compiled("abcdefghij : long = 1; abcdefghik : long = 1; abcdefghi : long = 1;", 3);
        // Locals with the NAME of a DEF are none of these.
        check.compiled("x (y : long) : long = let x = y in x; "
                + "y (x : long) : long = (fn (y : long) -> y) x;", 2);
    }

    private void namesOfParameters() {
        check.compiled("x (a : long) (b : long) (aa : long) (a1 : long) : long = a;", 1);
        check.faultAt("x (a : long) (@a : long) : long = a;", 5);
        check.faultAt("x (a : long) (b : long) (c : long) (d : long) (e : long) (@a : double) : long = a;", 5);
        check.faultAt("x (a : long) (b : long) (@b : long) (a : long) : long = a;", 5);
        check.compiled("x (a : long) : long = a; y (a : long) : long = a;", 2);
        check.compiled("x (x : long) : long = x;", 1);
        check.compiled("x (a : long) : long = let a = a in let a = a in (fn (a : long) -> a) a;", 1);
    }

    private void lettersOfResults() {
        check.compiled("x (p : 'a) : 'a = p;", 1);
        check.faultAt("x (p : 'a) : @'b = p;", 5);
        check.faultAt("x (p : long) : @'a = p;", 5);
        check.faultAt("x : long * @'d = x;", 5);
        check.compiled("x (p : 'a -> 'b) (q : long * ('c * 'd)) : 'd * 'c -> 'b * 'a = x p q;", 1);
        check.faultAt("x (p : 'a -> 'b) (q : long * ('c * 'c)) : 'c * @'d -> 'b * 'a = x p q;", 5);
        check.faultAt("x (p : 'a) : ('a -> 'a) -> (long * @'c) = x p;", 5);
        // The PARAMETERS of another DEF do not count, and a fn's TYPE neither.
        check.faultAt("x (p : 'a) : 'a = p; y : @'a = y; z (p : 'a) : 'a = p;", 5);
        check.faultAt("x : @'a = fn (p : 'a) -> p;", 5);
    }

    private void lettersOfFns() {
        check.compiled("x (p : 'a) : 'a -> 'a = fn (q : 'a) -> p;", 1);
        check.compiled("x (p : long -> 'a * 'b) : long = let f = fn (q : 'b -> 'a) -> 1 in 1;", 1);
        check.faultAt("x (p : 'a) : long = let f = fn (q : @'b) -> 1 in 1;", 5);
        check.faultAt("x : long = let f = fn (q : long -> (long * @'a)) -> 1 in 1;", 5);
        check.faultAt("x (p : 'a) : long = let f = fn (q : 'a) -> fn (r : 'a * @'c) -> 1 in 1;", 5);
        check.faultAt("x (p : 'a) : 'a = p; y (p : long) : long = let f = fn (q : @'a) -> 1 in 1;", 5);
    }

    /** The first NAME or LETTER of them, behind all of 2 to 4 and before all of 6 and 7. */
    private void firstOfTheClashes() {
        check.faultAt("x : long = 1; @x (a : long) (a : long) : 'a = fn (q : 'b) -> q;", 5);
        check.faultAt("x (a : long) (@a : long) : 'a = fn (q : 'b) -> q; x : long = 1;", 5);
        check.faultAt("x (a : long) : @'a = fn (q : 'b) -> q; x : long = 1;", 5);
        check.faultAt("x (a : long) : long = fn (q : @'b) -> q; x : 'c = 1;", 5);
        check.faultAt("x : 'a = 1; x : long = 1; y : long @;", 2);
        check.faultAt("x : 'a = 1; x : long = 1" + Check.times(8, " + 1") + " @+ 1;", 3);
        check.faultAt("x (a : long) (a : long) (b : long) (b : long) (c : long) (c : long) (@d : long)", 4);
        check.faultAt("x : long = nowhere; y : double = 1; z : @'a = 1;", 5);
        check.faultAt("x : long = @nowhere; y : double = 1; z : long = 1;", 6);
    }

    private void scopes() {
        check.compiled("x : long = let y = 1 in y;", 1);
        check.faultAt("x : long = let y = @y in 1;", 6);
        check.faultAt("x : long = (let y = 1 in y) - @y;", 6);
        check.compiled("x : long = (fn (y : long) -> y) 1;", 1);
        check.faultAt("x : long = (fn (y : long) -> y) @y;", 6);
        check.faultAt("x : long = let y = (let z = 1 in z) in @z;", 6);
        check.faultAt("x (y : long) : long = y; z : long = @y;", 6);
        check.compiled("x (y : long) : long = z; z : long = 1;", 2);
        check.faultAt("x (y : long) : long = @z;", 6);
        // The innermost local, else the DEF: told apart by their TYPES.
        String y = "y : double = #1; ";
        check.compiled(y + "x (y : long) : long = y;", 2);
        check.compiled(y + "x : long = let y = 1 in y;", 2);
        check.compiled(y + "x : double = let y = y in y;", 2);
        check.compiled(y + "x : double = let z = (let y = 1 in y) in y;", 2);
        check.compiled(y + "x : double = let z = (fn (y : long) -> y) 1 in y;", 2);
        check.compiled(y + "x (y : long) : long * double = (y, let y = #1 in y);", 2);
        check.compiled(y + "x (y : long) : long -> double = fn (z : long) -> let y = #1 in y;", 2);
        check.faultAt(y + "@x (y : long) : double = y;", 7);
    }

    private void twoHundred() {
        String x = GREAT + "x : long = let a = ";
        String fn = "fn (q : " + great(100) + ") -> ";
        for (String well : new String[] {"(h, h)", "((h, k), 1)", "(1, (k, h))", "fn (q : long) -> (h, k)",
            fn + "h", "two h h", "two (h, k) 1", "two 1 (k, h)", "dup h", "fun h h", "fun (k, h) 1", "id (h, h)",
            "let b = (h, h) in b", "if 1 then (h, h) else (h, h)", "(fn (q : long) -> (h, k)) 1"}) {
            check.compiled(x + well + " in 1;", 7);
            check.compiled(x + well + " in let b = a in 1;", 7);
        }
        for (String over : new String[] {"((h, h) @, 1)", "(1 @, (h, h))", "(h @, (h, 1))",
            "@fn (q : long) -> (h, h)", "@" + fn + "(h, 1)", "@two h (h, 1)", "@two (h, 1) h", "@two (h, h) 1",
            "@dup (h, 1)", "@fun h (1, h)", "@fun (h, h) 1", "id (h @, (h, 1))",
            "if 1 then 1 else @two 1 (h, h)", "(@fn (q : long) -> (h, h)) 1"}) {
            check.faultAt(x + over + " in 1;", 7);
        }
    }

    private static String parameters(int number) {
        StringBuilder text = new StringBuilder();
        for (int i = 0; i < number; i++) {
            text.append(" (p").append(i).append(" : ").append(i % 2 == 0 ? "long" : "'a").append(")");
        }
        return text.toString();
    }

    private static String atoms(int number) {
        StringBuilder text = new StringBuilder();
        for (int i = 0; i < number; i++) {
            text.append(" ").append(i + 1);
        }
        return text.toString();
    }

    /** n ATOMS or more stand behind the NAME of a DEF with n PARAMETERS. */
    private void atomsOfDefs() {
        for (int n = 1; n <= 6; n++) {
            String plain = "d" + parameters(n) + " : long = 1; x : long = ";
            String more = "d" + parameters(n) + " : long -> long = fn (y : long) -> y; x : long = ";
            check.compiled(plain + "d" + atoms(n) + ";", 2);
            check.compiled(more + "d" + atoms(n + 1) + ";", 2);
            check.faultAt(plain + "@d" + atoms(n + 1) + ";", 7);
            check.faultAt(more + "@d" + atoms(n + 2) + ";", 7);
            for (int fewer = 0; fewer < n; fewer++) {
                check.faultAt(plain + "@d" + atoms(fewer) + ";", 7);
                check.faultAt(plain + "(@d" + atoms(fewer) + ")" + atoms(n - fewer) + ";", 7);
                check.faultAt(plain + "1 + @d" + atoms(fewer) + " + 1;", 7);
            }
            check.compiled(plain + "(d" + atoms(n) + ");", 2);
            check.compiled(more + "(d" + atoms(n) + ") 1;", 2);
            check.faultAt(plain + "(((@d)))" + atoms(n) + ";", 7);
            check.faultAt(plain + "fst @d;", 7);
            check.faultAt(plain + "let y = @d in y" + atoms(n) + ";", 7);
        }
        check.compiled("d : long = 1; x : long = d;", 2);
        check.compiled("d : long -> long = fn (y : long) -> y; x : long = d 1;", 2);
        check.faultAt("d : long = 1; x : long = @d 1;", 7);
    }

    private void atomsOfFunctions() {
        String f = "x (f : long -> double -> long * long) : long = ";
        check.compiled(f + "fst (f 1 #2);", 1);
        check.faultAt(f + "fst (@f 1 2);", 7);
        check.faultAt(f + "fst (@f #1 #2);", 7);
        check.faultAt(f + "fst (@f #1 2);", 7);
        check.faultAt(f + "fst (@f 1 #2 3);", 7);
        check.faultAt(f + "@fst (f 1);", 7);
        String d = "d (x : 'a) : long -> double -> 'a = fn (y : long) -> fn (z : double) -> x; ";
        check.compiled(d + "x : long = d 1 2 #3;", 2);
        check.compiled(d + "x : double = d #1 2 #3;", 2);
        check.compiled(d + "x : long = d (fn (y : double) -> 1) 2 #3 #4;", 2);
        check.faultAt(d + "x : long = @d 1 2 3;", 7);
        check.faultAt(d + "x : long = @d 1 #2 #3;", 7);
        check.faultAt(d + "x : long = @d 1 2 #3 4;", 7);
        check.faultAt(d + "x : long = (@d 1 2) 3;", 7);
        check.faultAt("x : long = @1 2;", 7);
        check.faultAt("x : long = (1 @, 2) 2;", 7);
    }

    private void ownTypeOfADef() {
        check.compiled("x : long = 1; y : double = #1; z : long * double = (x, y);", 3);
        check.faultAt("x : long = 1; @y : double = 1; z : long * double = (x, 1);", 7);
        check.faultAt("x : long = 1; y : double = #1; @z : double * long = (x, y);", 7);
        // TYPES are the same when they are told alike: brackets that change nothing do not count.
        check.compiled("x (f : (long) -> ((double) -> long)) : long -> double -> long = f;", 1);
        check.faultAt("@x (f : (long -> double) -> long) : long -> double -> long = f;", 7);
        check.compiled("x (p : (long * (double * long))) : long * double * long = p;", 1);
        check.faultAt("@x (p : (long * double) * long) : long * double * long = p;", 7);
        check.faultAt("@x (p : 'a) (q : 'b) : 'b = p;", 7);
    }

    private void tally(String text, int what, int due) {
        BoxedCore core = Check.fed(text);
        int last = core.compile() - 1;
        check.same("def " + what + " of the last of " + text, due, core.def(last, what));
    }

    private void lettersCounted() {
        tally("x (p : long) : long = 1;", 1, 0);
        tally("x (p : 'd) : long = 1;", 1, 1);
        tally("x (p : 'd * 'd) (q : 'd) : 'd -> 'd = x p q;", 1, 1);
        tally("x (p : 'd * 'a) : long = 1;", 1, 2);
        tally("x (p : 'b -> 'a) (q : 'c) : long = 1;", 1, 3);
        tally("x (p : 'b -> 'a) (q : 'c * 'd) (r : 'a) : 'd * 'b * 'c = x p q r;", 1, 4);
        // Of its own alone, not of those that it calls.
        tally("id (x : 'a) : 'a = x; x (p : long) : long = id p;", 1, 0);
        tally("id (x : 'a) : 'a = x; x (p : 'b) : long = id 1;", 1, 1);
    }

    private void callsCounted() {
        tally("x : long = 1;", 2, 0);
        tally("x : long = x;", 2, 1);
        tally("x : long = x + x;", 2, 2);
        tally("x : long = 1; y : long = x;", 2, 1);
        tally("x : long = x; y : long = 1;", 2, 0);
        tally("d (n : long) : long = d (d (d n));", 2, 3);
        // In brackets or not, before more ATOMS or none; in what never is worked, too.
        tally("f : long -> long = f; x : long = f 1 + (f) 1 + (if 0 then f else f) 1;", 2, 4);
        tally("f (n : long) : long -> long = f n; x : long = f 1 2;", 2, 1);
        tally("f (n : long) : long = n; x (f : long -> long) : long = f 1;", 2, 0);
    }

    private void thirtyDefs() {
        StringBuilder text = new StringBuilder();
        for (int d = 0; d < 30; d++) {
            text.append("d").append(d).append(parameters(d % 3)).append(" : long = ").append(d).append("; ");
        }
        BoxedCore core = check.compiled(text.toString(), 30);
        check.same("defs", 30, core.defs());
        for (int d = 0; d < 30; d++) {
            check.same("parameters of " + d, d % 3, core.def(d, 0));
            check.same("letters of " + d, d % 3 / 2, core.def(d, 1));
        }
        check.outOfBounds("def 30", () -> core.def(30, 0));
        check.same("run 27", 1, core.run(27, false, 1));
        check.same("result of 27", 27, core.result(1));
        core.argument(5);
        check.same("run 28", 1, core.run(28, false, 1));
        check.same("result of 28", 28, core.result(1));
        check.outOfBounds("run 30", () -> core.run(30, false, 1));
    }
}
