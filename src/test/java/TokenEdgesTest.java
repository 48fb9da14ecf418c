/** Promises 4 and 5: what the Terms say of TOKENS, on both sides of each boundary. */
final class TokenEdgesTest {
    private static final String SIGNS = "():=;,*+-<";
    private static final String[] WORDS = {"long", "double", "let", "in", "if", "then", "else", "fn",
        "fst", "snd"};

    private final Check check = new Check();

    public static void main(String[] args) {
        TokenEdgesTest test = new TokenEdgesTest();
        test.eachOctet();
        test.blanks();
        test.names();
        test.namesOfOneAndTwo();
        test.words();
        test.numbers();
        test.bits();
        test.letters();
        test.signs();
        test.asLongAsCanBe();
        test.nineHundred();
        test.threeThousand();
        test.whereTheTextEnds();
        test.check.end();
    }

    private static boolean isBlank(int octet) {
        return octet == 32 || octet == 10;
    }

    private static boolean isSmall(int octet) {
        return octet >= 'a' && octet <= 'z';
    }

    private static boolean isDigit(int octet) {
        return octet >= '0' && octet <= '9';
    }

    /** A blank is no TOKEN; a NAME is begun; a NUMBER or SIGN can't stand; all else is none. */
    private void eachOctet() {
        for (int octet = 0; octet < 256; octet++) {
            String text = "" + (char) octet;
            if (isBlank(octet)) {
                check.compiled(text, 0);
            } else if (isSmall(octet)) {
                check.fault(text, 2, 1);
            } else {
                check.fault(text, isDigit(octet) || SIGNS.indexOf(octet) >= 0 ? 2 : 1, 0);
            }
        }
    }

    private void blanks() {
        for (int octet = 0; octet < 256; octet++) {
            String text = "x :" + (char) octet + "long = 1;";
            if (isBlank(octet)) {
                check.compiled(text, 1);
            } else if (!isSmall(octet) && !isDigit(octet) && SIGNS.indexOf(octet) < 0) {
                check.fault(text, 1, 3);
            }
        }
        check.compiled("\n\n x \n:\nlong\n = \n 1 \n;\n", 1);
        check.compiled("f(x:long):long=let y=x in if y then(fst(y,y))else(fn(z:long)->z)y;", 1);
        // Between the octets of one TOKEN there is none.
        check.faultAt("x : @lo ng = 1;", 2);
        check.faultAt("x : long = @1 2;", 7);
        check.faultAt("x : long - @> long = 1;", 1);
        check.faultAt("x : double = @# 1;", 1);
        check.faultAt("x (y : @' a) : long = 1;", 1);
    }

    private void names() {
        String ten = "a1b2c3d4e5";
        for (int size = 1; size <= 10; size++) {
            String name = ten.substring(0, size);
            check.compiled(name + " (x : long) : long = x; y : long = " + name + " 1;", 2);
            check.compiled("x (" + name + " : long) : long = " + name + ";", 1);
        }
        for (String name : new String[] {ten + "f", ten + "6", "abcdefghijk", "longlonglon",
            Check.times(100, "a")}) {
            check.faultAt("@" + name + " : long = 1;", 1);
            check.faultAt("x (@" + name + " : long) : long = 1;", 1);
            check.faultAt("x : long = let @" + name + " = 1 in 1;", 1);
            check.faultAt("x : long = fn (@" + name + " : long) -> 1;", 1);
            check.faultAt("x : long = 1 + @" + name + ";", 1);
        }
        // A letter first, then letters and digits, and nothing else.
        check.faultAt("@1a : long = 1;", 2);
        check.faultAt("a@A : long = 1;", 1);
        check.faultAt("a@_b : long = 1;", 1);
        check.compiled("a : long = 1; z : long = a; a0 : long = z; z9 : long = a0;", 4);
        check.faultAt("a@` : long = 1;", 1);
        check.faultAt("a@{ : long = 1;", 1);
        check.faultAt("a@/ : long = 1;", 1);
        check.faultAt("a9: @: long = 1;", 2);
    }

    /** No NAME of one letter means the same as one of two, whatever they are made of. */
    private void namesOfOneAndTwo() {
        String octets = "abcdefghijklmnopqrstuvwxyz0123456789";
        for (int one = 0; one < 26; one++) {
            for (int first = 0; first < 26; first++) {
                BoxedCore core = new BoxedCore();
                for (int second = 0; second < octets.length(); second++) {
                    String two = "" + octets.charAt(first) + octets.charAt(second);
                    core.wipe();
                    Check.feed(core, octets.charAt(one) + ":long=" + two + ";");
                    boolean word = two.equals("in") || two.equals("if") || two.equals("fn");
                    check.same(octets.charAt(one) + " and " + two, word ? -2 : -6, core.compile());
                }
            }
        }
    }

    private void words() {
        for (String word : WORDS) {
            check.faultAt("@" + word + " : long = 1;", 2);
            check.faultAt("x (@" + word + " : long) : long = 1;", 2);
            check.faultAt("x : long = let @" + word + " = 1 in 1;", 2);
            check.faultAt("x : long = fn (@" + word + " : long) -> 1;", 2);
            for (String name : new String[] {word + "a", word + "0", "a" + word,
                word.substring(0, word.length() - 1)}) {
                check.compiled(name + " : long = 1; x : long = " + name + ";", 2);
                check.compiled("x (" + name + " : long) : long = let " + name + " = " + name
                        + " in (fn (" + name + " : long) -> " + name + ") " + name + ";", 1);
            }
        }
    }

    private void word(String text, long due) {
        BoxedCore core = check.compiled("x : " + text + ";", 1);
        check.same("run of " + text, 1, core.run(0, false, 1));
        check.same("sort of " + text, text.startsWith("long") ? 0 : 1, core.sort(1));
        check.same("word of " + text, due, core.result(1));
    }

    private void numbers() {
        word("long = 0", 0);
        word("long = 00", 0);
        word("long = 1", 1);
        word("long = 4294967296", 1L << 32);
        word("long = 9223372036854775806", Long.MAX_VALUE - 1);
        word("long = 9223372036854775807", Long.MAX_VALUE);
        word("long = " + Check.times(300, "0") + "9223372036854775807", Long.MAX_VALUE);
        for (String great : new String[] {"9223372036854775808", "9223372036854775809",
            "9223372036854775810", "9300000000000000000", "10000000000000000000",
            "18446744073709551615", "18446744073709551616", "18446744073709551617",
            "92233720368547758070", Check.times(300, "9"),
            Check.times(300, "0") + "9223372036854775808"}) {
            check.faultAt("x : long = @" + great + ";", 1);
            check.faultAt("x : long = 1 + @" + great, 1);
        }
    }

    private void bits() {
        for (int size = 1; size <= 16; size++) {
            word("double = #" + Check.times(size, "f"), -1L >>> 64 - 4 * size);
            word("double = #" + Check.times(size - 1, "0") + "9", 9);
        }
        word("double = #0123456789abcdef", 0x0123456789abcdefL);
        word("double = #8000000000000000", Long.MIN_VALUE);
        check.faultAt("x : double = @#" + Check.times(17, "0") + ";", 1);
        check.faultAt("x : double = @#" + Check.times(17, "f") + ";", 1);
        check.faultAt("x : double = @#" + Check.times(200, "1"), 1);
        for (String none : new String[] {"#", "# 1", "#g", "#A", "#-1", "##1", "#;"}) {
            check.faultAt("x : double = @" + none, 1);
        }
        // What is none of 0-9 a-f ends them.
        check.faultAt("x : double = #a@g;", 6);
        check.faultAt("x : double = #a@G;", 1);
        check.faultAt("x : double = #a@`;", 1);
        check.faultAt("x : double = @#9#1;", 7);
    }

    private void letters() {
        for (String letter : new String[] {"a", "b", "c", "d"}) {
            check.compiled("x (y : '" + letter + ") : '" + letter + " = y;", 1);
        }
        for (String none : new String[] {"'`", "'e", "'z", "'A", "'1", "''a", "' a", "'", "'\n"}) {
            check.faultAt("x (y : @" + none, 1);
        }
        check.faultAt("x (y : 'a@a) : long = 1;", 2);
    }

    private void signs() {
        check.faultAt("x : long @> long = 1;", 1);
        check.faultAt("x : long = 1 @> 2;", 1);
        check.faultAt("x : long @. long = 1;", 1);
        check.faultAt("x : long = 1 @/ 1;", 1);
        check.faultAt("x : long = @[1];", 1);
        check.faultAt("x : long = @\"1\";", 1);
        check.fault("x : long = 1 -", 2, 14);
        check.fault("x : long -", 2, 9);
        check.fault("x : long ->", 2, 11);
    }

    private void asLongAsCanBe() {
        check.compiled("x:long->long=fn(y:long)->y-1;", 1);
        check.compiled("x : long = 2-1;", 1);
        check.faultAt("x : long = 2@->1;", 2);
        check.faultAt("x : long = 2-@->1;", 2);
        check.faultAt("x : long = 2-@-1;", 2);
        check.compiled("inx : long = 1; x : long = let in1 = inx in in1;", 2);
        check.faultAt("x : long = let y = 1 iny@;", 2);
        check.compiled("x : long = let y = 1 in(y);", 1);
        check.faultAt("x : long = 1@x1;", 6);
        check.faultAt("x : long = #1@x1;", 6);
        check.faultAt("x : long = @12 3;", 7);
        check.compiled("x : long = 123;", 1);
    }

    /** A DEF of 30 TOKENS. */
    private static String thirty(int d) {
        return "d" + d + ":long=1" + Check.times(8, "+1") + "<1" + Check.times(3, "-1") + ";";
    }

    private void nineHundred() {
        StringBuilder text = new StringBuilder();
        for (int d = 0; d < 30; d++) {
            text.append(thirty(d));
        }
        check.compiled(text.toString(), 30);
        check.compiled(text + " \n ", 30);
        int size = text.length();
        for (String more : new String[] {";", "x", "1", "#1", "'a", "->", "let", "abcdefghijk", "$"}) {
            check.fault(text + more, 1, size);
            check.fault(text + " \n" + more + " x", 1, size + 2);
        }
        // With one TOKEN fewer the next one is read as any other.
        String fewer = text.substring(0, size - 1);
        check.fault(fewer, 2, size - 1);
        check.fault(fewer + ")", 2, size - 1);
        check.fault(fewer + ") ;", 1, size + 1);
        // A fault that stands before the 901st TOKEN comes first, one behind it does not.
        check.fault("$" + text + ";", 1, 0);
        check.fault(text + ";$", 1, size);
        check.fault(Check.times(899, ": ") + "x x", 1, 1800);
        check.fault(Check.times(899, ": ") + "x", 2, 0);
    }

    private void threeThousand() {
        String text = "x : long = 1" + Check.times(2987, " ") + ";";
        check.same("octets", 3000, text.length());
        check.compiled(text, 1);
        check.compiled(Check.times(1500, " \n").substring(13) + "x : long = 1;", 1);
        check.compiled("x : long = 1;" + Check.times(2987, "\n"), 1);
        check.fault("x : long = 1" + Check.times(2988, " "), 2, 3000);
        check.fault(Check.times(2999, " ") + "$", 1, 2999);
        check.fault(Check.times(2999, " ") + "x", 2, 3000);
        check.fault(Check.times(2990, " ") + "abcdefghij", 2, 3000);
        check.fault(Check.times(2989, " ") + "abcdefghijk", 1, 2989);
        check.fault("x : long = " + Check.times(2989, "0"), 2, 3000);
        check.fault(Check.times(3000, "a"), 1, 0);
    }

    /** What stood in a longer TEXT before is not read: each end is where THE TEXT ends. */
    private void whereTheTextEnds() {
        after("x (y : 'a) : long = 1;", "x (y : '", -1, 7);
        after("x : long -> long = y;", "x : long -", -2, 9);
        after("x : long = 12345;", "x : long = 1", -2, 12);
        after("abcdefghijk : long", "abcdefghij", -2, 10);
        after("x : double = #12345678123456789", "x : double = #1234567812345678", -2, 30);
        after("x : double = #1", "x : double = #", -1, 13);
        after("x : long = 9223372036854775808", "x : long = 922337203685477580", -2, 29);
        after("x : long = 1; y : long = 2;", "x : long = 1;", 1, -1);
        after("x : long = 1;", "", 0, -1);
    }

    private void after(String before, String text, int answer, int place) {
        BoxedCore core = Check.fed(before);
        core.compile();
        check.same("wipe of " + before, before.length(), core.wipe());
        Check.feed(core, text);
        check.same("compile " + text + " behind " + before, answer, core.compile());
        check.same("place of " + text + " behind " + before, place, core.place());
    }
}
