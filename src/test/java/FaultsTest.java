/** Promises 4 and 5: compile, place; FAULTS 1 to 5, of TOKENS, the grammar and its limits. */
final class FaultsTest {
    private final Check check = new Check();

    public static void main(String[] args) {
        FaultsTest test = new FaultsTest();
        test.wellRead();
        test.tokens();
        test.tokenLimits();
        test.namesAreToldApart();
        test.grammar();
        test.depths();
        test.chains();
        test.numbers();
        test.leaves();
        test.firstOfThem();
        test.clashes();
        test.place();
        test.check.end();
    }

    private void wellRead() {
        check.compiled("", 0);
        check.compiled(" \n \n", 0);
        check.compiled("x:long=1;", 1);
        check.compiled("x:long=1;y:double=#0;", 2);
        check.compiled("x:long->long=fn(y:long)->y-1<y;", 1);
        check.compiled("longs:long=1;lets:long=longs;", 2);
        check.compiled("x (a : 'a) (b : 'b) (c : 'c) (d : 'd) : 'd = d;", 1);
        check.compiled("f (n : long) : long = g n; g (n : long) : long = f n;", 2);
        check.compiled("x : long = let x = 1 in let x = (x, x) in fst x;", 1);
        check.compiled("x : long = fst(1,2);", 1);
        check.compiled("a1b2c3d4e5 : long = 0009223372036854775807;", 1);
        check.compiled("x : double = #ffffffffffffffff;", 1);
        check.compiled("f : long -> long -> long * long = fn (a : long) -> fn (b : long) -> (a, b);", 1);
    }

    private void tokens() {
        check.faultAt("@X : long = 1;", 1);
        check.faultAt("x : long = @$;", 1);
        check.faultAt("x :@\t long = 1;", 1);
        check.faultAt("x :@\r long = 1;", 1);
        check.fault("x : long = \0;", 1, 11);
        check.fault("x : long = \u00e4;", 1, 11);
        check.faultAt("x : long @> long = 1;", 1);
        check.faultAt("x : long - @> long = 1;", 1);
        check.faultAt("x : @'e = 1;", 1);
        check.faultAt("x : @'", 1);
        check.faultAt("x : @' a = 1;", 1);
        check.faultAt("x : double = @#;", 1);
        check.faultAt("x : double = @#g;", 1);
        check.faultAt("x : double = @#", 1);
        check.faultAt("x : double = #a@A;", 1);
        // Each TOKEN is as long as can be, and the next may follow at once.
        check.faultAt("x : long = 12@ab;", 6);
        check.faultAt("x : long = #ff@g;", 6);
        check.faultAt("x (p : 'a@b) : long = 1;", 2);
        check.faultAt("x : long = 1@->2;", 2);
        check.faultAt("x : long = 1-@-2;", 2);
        // 1 is told before all others, wherever they are.
        check.faultAt("x x x ; ; @$", 1);
        check.faultAt("x : long = #1; x : long = y; @&", 1);
    }

    private void tokenLimits() {
        check.faultAt("@abcdefghijk : long = 1;", 1);
        check.faultAt("x : long = @abcdefghi12;", 1);
        check.compiled("abcdefghij : long = 1;", 1);
        check.faultAt("x : long = @9223372036854775808;", 1);
        check.faultAt("x : long = @9223372036854775810;", 1);
        check.faultAt("x : long = @18446744073709551617;", 1);
        check.faultAt("x : long = @99999999999999999999999999999999;", 1);
        check.faultAt("x : double = @#00000000000000000;", 1);
        check.compiled("x : double = #0000000000000000;", 1);
        check.fault(Check.times(900, "x "), 2, 2);
        check.fault(Check.times(901, "x "), 1, 1800);
        check.fault(Check.times(900, "x ") + "$", 1, 1800);
        check.fault(Check.times(900, "x ") + "  abcdefghijk", 1, 1802);
        check.fault(Check.times(900, "x ") + "   \n ", 2, 2);
    }

    private void namesAreToldApart() {
        String octets = "abcdefghijklmnopqrstuvwxyz0123456789";
        for (int i = 0; i < octets.length(); i++) {
            BoxedCore core = new BoxedCore();
            for (int j = 0; j < octets.length(); j++) {
                String text = "x" + octets.charAt(i) + " : long = x" + octets.charAt(j) + ";";
                core.wipe();
                Check.feed(core, text);
                check.same(text, i == j ? 1 : -6, core.compile());
            }
        }
        check.faultAt("xa : long = @x;", 6);
        check.faultAt("x : long = @xa;", 6);
        check.faultAt("x : long = @ax;", 6);
        check.faultAt("abcdefghij : long = @bbcdefghij;", 6);
        check.faultAt("abcdefghij : long = @abcdefghi;", 6);
    }

    private void grammar() {
        check.faultAt("@1", 2);
        check.faultAt("@long : long = 1;", 2);
        check.faultAt("x@", 2);
        check.fault("x  \n", 2, 4);
        check.faultAt("x @long", 2);
        check.faultAt("x : @= 1;", 2);
        check.faultAt("x : long @1;", 2);
        check.faultAt("x : long = @;", 2);
        check.faultAt("x : long = 1@", 2);
        check.faultAt("x : long = 1;@;", 2);
        check.faultAt("x (@) : long = 1;", 2);
        check.faultAt("x (y @) : long = 1;", 2);
        check.faultAt("x (y : @) : long = 1;", 2);
        check.faultAt("x (y : long @: long = 1;", 2);
        check.faultAt("x (y : long) @= 1;", 2);
        check.faultAt("x (@fst : long) : long = 1;", 2);
        check.faultAt("x : long * @-> long = 1;", 2);
        check.faultAt("x : long -> @= 1;", 2);
        check.faultAt("x : (long @= 1;", 2);
        check.faultAt("x : long @double = 1;", 2);
        check.faultAt("x : long = (1@;", 2);
        check.faultAt("x : long = (@);", 2);
        check.faultAt("x : long = (1, @);", 2);
        check.faultAt("x : long = (1, 2@, 3);", 2);
        check.faultAt("x : long = 1 @, 2;", 2);
        check.faultAt("x : long = 1 + @;", 2);
        check.faultAt("x : long = @- 1;", 2);
        check.faultAt("x : long = 1 < 2 @< 3;", 2);
        check.faultAt("x : long = 1 < @let y = 1 in y;", 2);
        check.faultAt("x : long = 1 + @if 1 then 1 else 1;", 2);
        check.faultAt("x : long = let @1 = 1 in 1;", 2);
        check.faultAt("x : long = let y @: long = 1 in 1;", 2);
        check.faultAt("x : long = let y = 1 @;", 2);
        check.faultAt("x : long = let y = 1 in @;", 2);
        check.faultAt("x : long = if 1 @else 1;", 2);
        check.faultAt("x : long = if 1 then 1@;", 2);
        check.faultAt("x : long = if 1 then 1 else @;", 2);
        check.faultAt("x : long = fn @y -> y;", 2);
        check.faultAt("x : long = fn (y @) -> y;", 2);
        check.faultAt("x : long = fn (y : long) @= y;", 2);
        check.faultAt("x : long = fst @;", 2);
        check.faultAt("x : long = fst @fst y;", 2);
        check.faultAt("x : long = fst y @z;", 2);
        check.faultAt("x : long = f @fst y;", 2);
        check.faultAt("x : long = f @fn (y : long) -> y;", 2);
    }

    private void depths() {
        check.compiled("x : long = " + nest(19, "1") + ";", 1);
        check.faultAt("x : long = " + Check.times(20, "(") + "@1" + Check.times(20, ")") + ";", 3);
        check.faultAt("x : long = " + Check.times(20, "(") + "@" + Check.times(20, ")") + ";", 3);
        check.faultAt("x : long = " + Check.times(20, "(") + "@(1))", 3);
        check.compiled("x : long = " + Check.times(19, "let y = 1 in ") + "1;", 1);
        check.faultAt("x : long = " + Check.times(19, "let y = 1 in ") + "let y = @1 in 1;", 3);
        check.faultAt("x : long = " + Check.times(19, "if 1 then 1 else ") + "if @1 then 1 else 1;", 3);
        check.faultAt("x : long = " + Check.times(18, "(") + "fn (y : long) -> (@fn (z : long) -> y", 3);
        check.faultAt("x : long = " + Check.times(18, "(") + "1 + (1, (@1, 1", 3);
        // What is no EXPR of the grammar is not counted: + and CALLS lie within the same one.
        check.compiled("x : long = " + nest(19, "1 + 1 + 1 < 1 + 1") + ";", 1);
        check.compiled("x (y : " + nest(19, "long") + ") : long = 1;", 1);
        check.faultAt("x (y : " + Check.times(20, "(") + "@long", 3);
        check.faultAt("x (y : " + Check.times(20, "(") + "@)", 3);
        check.compiled("x (y : " + Check.times(19, "long -> ") + "long) : long = 1;", 1);
        check.faultAt("x (y : " + Check.times(20, "long -> ") + "@long) : long = 1;", 3);
        check.faultAt("x (y : " + Check.times(20, "long -> ") + "@) : long = 1;", 3);
        check.faultAt("x : " + Check.times(10, "long -> (") + "@long", 3);
        // TYPES and EXPRS are counted each by their kind.
        check.compiled("x : long = " + nest(17, "let f = fn (y : " + nest(19, "long")
                + ") -> y in 1") + ";", 1);
    }

    private static String nest(int n, String text) {
        return Check.times(n, "(") + text + Check.times(n, ")");
    }

    private void chains() {
        check.compiled("x : long = 1" + Check.times(8, " + 1") + ";", 1);
        check.faultAt("x : long = 1" + Check.times(8, " - 1") + " @+ 1;", 3);
        check.faultAt("x : long = 1" + Check.times(8, " + 1") + " @-;", 3);
        check.compiled("x : long = 1" + Check.times(8, " + 1") + " < 1" + Check.times(8, " - 1") + ";", 1);
        check.compiled("x : long = (1" + Check.times(8, " + 1") + ")" + Check.times(8, " + 1") + ";", 1);
        String eight = "f : " + Check.times(8, "long -> ") + "long = ";
        for (int i = 0; i < 8; i++) {
            eight += "fn (a" + i + " : long) -> ";
        }
        check.compiled(eight + "a3; g : long = f 1 2 3 4 5 6 7 8;", 2);
        check.faultAt("g : long = f 1 2 3 4 5 6 7 8 @9;", 3);
        check.faultAt("g : long = f 1 2 3 4 5 6 7 8 @(;", 3);
        check.faultAt("g : long = f 1 2 3 4 5 6 7 8 @fst 9;", 2);
        check.compiled("x (y : long" + Check.times(8, " * long") + ") : long = 1;", 1);
        check.faultAt("x (y : long" + Check.times(8, " * long") + " @* long) : long = 1;", 3);
        check.faultAt("x (y : long" + Check.times(8, " * long") + " @*) : long = 1;", 3);
        check.compiled("x (y : long" + Check.times(7, " * long") + " * (long"
                + Check.times(8, " * double") + ") -> 'a" + Check.times(8, " * 'a") + ") : long = 1;", 1);
    }

    private void numbers() {
        StringBuilder thirty = new StringBuilder();
        for (int i = 0; i < 30; i++) {
            thirty.append("d").append(i).append(":long=1;");
        }
        check.compiled(thirty.toString(), 30);
        check.faultAt(thirty + " @d30:long=1;", 4);
        check.faultAt(thirty + " @d1", 4);
        check.faultAt(thirty + " @(", 2);
        String six = "x (a : long) (b : long) (c : long) (d : long) (e : long) (f : long)";
        check.compiled(six + " : long = 1;", 1);
        check.faultAt(six + " (@g : long) : long = 1;", 4);
        check.faultAt(six + " (@g", 4);
        check.faultAt(six + " (@long", 2);
        check.compiled(six + " : long = " + Check.times(18, "let y = 1 in ") + "1;", 1);
        check.faultAt(six + " : long = " + Check.times(18, "let y = 1 in ") + "let @y = 1 in 1;", 4);
        check.faultAt(six + " : long = " + Check.times(18, "let y = 1 in ") + "let @2 = 1 in 1;", 2);
        String fns = "fn (y : long) -> ";
        String lets = "x : long = let a = " + Check.times(12, fns) + "1 in let b = ";
        check.compiled(lets + Check.times(10, fns) + "1 in 1;", 1);
        check.faultAt(lets + Check.times(10, fns) + "fn (@y : long) -> 1 in 1;", 4);
        // Each DEF has its own.
        check.compiled(six + " : long = 1; " + six.replace("x", "y") + " : long = "
                + Check.times(18, "let y = 1 in ") + "1;", 2);
    }

    private void leaves() {
        String nine = "long" + Check.times(8, " * 'a");
        String hundred = Check.times(11, nine + " -> ") + "double";
        check.compiled("x (y : " + hundred + ") (z : " + hundred + ") : long = 1;", 1);
        check.faultAt("x (y : " + hundred + " -> @long) : long = 1;", 4);
        check.faultAt("x (y : " + hundred + " -> @'a) : long = 1;", 4);
        check.faultAt("x (y : " + hundred + " -> @double", 4);
        check.faultAt("x (y : " + hundred + " -> @) : long = 1;", 2);
        check.faultAt("x (y : " + hundred + " -> (@double", 4);
        check.faultAt("x (y : 'a) : " + hundred + " -> @double = 1;", 4);
        check.faultAt("x (y : 'a) : long = fn (z : " + hundred + " -> @double", 4);
    }

    private void firstOfThem() {
        // 3 is told before 2 at the same TOKEN; else what comes first.
        check.faultAt("x : long = 1 @: 1" + Check.times(9, " + 1"), 2);
        check.faultAt("x : long = 1" + Check.times(8, " + 1") + " @+ : ", 3);
        check.faultAt("x : " + Check.times(20, "(") + "@-> ->", 3);
        check.faultAt("x : long = 1" + Check.times(8, " + 1") + " + @$", 1);
    }

    private void clashes() {
        check.faultAt("x : long = 1; @x : long = 2;", 5);
        check.faultAt("x : long = 1; y : long = 1; @y : long = 2; x : long = 1;", 5);
        check.faultAt("x (a : long) (b : long) (@a : long) : long = 1;", 5);
        check.compiled("x (x : long) : long = x; y (x : long) : long = x;", 2);
        check.compiled("x (a : long) : long = let a = a in (fn (a : long) -> a) a;", 1);
        check.faultAt("x : @'a = 1;", 5);
        check.faultAt("x (y : 'a) : 'a * @'b = 1;", 5);
        check.faultAt("x (y : 'a) (z : long -> 'c) : 'c * @'b = 1;", 5);
        check.faultAt("x : long = let f = fn (z : @'a) -> z in 1;", 5);
        check.faultAt("x (y : 'b) : long = let f = fn (z : 'b * @'a * 'c) -> z in 1;", 5);
        check.compiled("x (y : 'b) : long = let f = fn (z : 'b) -> z in 1;", 1);
        // LETTERS are those of the same DEF alone.
        check.faultAt("x (y : 'a) : 'a = y; z : @'a = x 1;", 5);
        // The first NAME or LETTER of them.
        check.faultAt("x : long = 1; @x (a : long) (a : long) : 'a = 1;", 5);
        check.faultAt("x (a : long) (@a : long) : 'a = 1;", 5);
        check.faultAt("x (a : long) : @'a = fn (z : 'b) -> z; x : long = 1;", 5);
        // All of 2, 3, 4 come before, all of 6 and 7 behind.
        check.faultAt("x : 'a = 1; x : long = 1 @", 2);
        check.faultAt("x : 'a = 1; x : long = 1" + Check.times(8, " + 1") + " @+ 1;", 3);
        check.faultAt("x : long = nowhere; y : double = 1; @x : long = 1;", 5);
    }

    private void place() {
        BoxedCore core = Check.fed("x : long = y;");
        check.same("not compiled", -1, core.place());
        check.same("compile", -6, core.compile());
        check.same("place", 11, core.place());
        check.same("place again", 11, core.place());
        check.same("compile again", -6, core.compile());
        check.same("place after that", 11, core.place());
        check.same("defs", 0, core.defs());
        check.outOfBounds("def", () -> core.def(0, 0));
        Check.feed(core, " y : long = 1;");
        check.same("place of another text", -1, core.place());
        check.same("now it is well", 2, core.compile());
        check.same("no place", -1, core.place());
    }
}
