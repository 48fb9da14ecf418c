/** Promises 4 and 5: the limits of the grammar (FAULTS 3 and 4), on both sides of each. */
final class GrammarEdgesTest {
    private static final String HELP =
            "g (a : long) : long = a; h (a : long) (b : long) (c : long) : long = b; ";

    /** What stands round an EXPR, and how many levels deeper than the whole that lies. */
    private record Round(int levels, String before, String behind) {
        /** Its own EXPR or TYPE lies within so many others. */
        String opened(int others) {
            return Check.times(others / levels, before) + Check.times(others % levels, "(");
        }

        String closed(int others) {
            return Check.times(others % levels, ")") + Check.times(others / levels, behind);
        }
    }

    private static final Round[] EXPRS = {
        new Round(1, "(", ")"), new Round(1, "1 + (", ") - 1"), new Round(1, "1 < (", ")"),
        new Round(1, "fst (", ", 1)"), new Round(1, "snd (1, ", ")"), new Round(1, "g (", ")"),
        new Round(1, "h 1 (", ") 1"), new Round(1, "let y = ", " in 1"),
        new Round(1, "let y = 1 in ", ""), new Round(1, "if ", " then 1 else 1"),
        new Round(1, "if 1 then ", " else 1"), new Round(1, "if 1 then 1 else ", ""),
        new Round(2, "let y = fn (z : long) -> ", " in 1"), new Round(2, "(fn (y : long) -> ", ") 1"),
    };

    private static final Round[] TYPES = {
        new Round(1, "(", ")"), new Round(1, "long -> ", ""), new Round(1, "(", ") -> long"),
        new Round(1, "long * (", ")"), new Round(1, "(", ") * double"),
        new Round(1, "long * long -> ", ""), new Round(2, "double -> (", ")"),
    };

    /** A TYPE may be told of a PARAMETER, of a DEF and of a fn. */
    private static final String[][] TOLD = {
        {"x (p : 'a) (y : ", ") : long = 1;"}, {"x (p : 'a) : ", " = x p;"},
        {"x (p : 'a) : long = let f = fn (y : ", ") -> 1 in 1;"},
    };

    private final Check check = new Check();

    public static void main(String[] args) {
        GrammarEdgesTest test = new GrammarEdgesTest();
        test.exprsWithinOthers();
        test.typesWithinOthers();
        test.kindsAreCountedApart();
        test.sums();
        test.calls();
        test.stars();
        test.defs();
        test.parameters();
        test.locals();
        test.everyLocalIsItsOwn();
        test.leaves();
        test.whatComesFirst();
        test.check.end();
    }

    private void exprsWithinOthers() {
        String[] deeper = {"(@1)", "(@1", "(@)", "(@;", "let z = @1 in 1", "if @1 then 1 else 1",
            "fn (z : long) -> @1", "(@1, 1)", "fst (@(1, 1), 1)", "1 + (@let", "g (@in)"};
        for (Round round : EXPRS) {
            for (int others : new int[] {1, 2, 18, 19}) {
                check.compiled(HELP + "x : long = " + round.opened(others) + "1"
                        + round.closed(others) + ";", 3);
            }
            for (String inner : deeper) {
                check.faultAt(HELP + "x : long = " + round.opened(19) + inner + round.closed(19) + ";", 3);
            }
            check.faultAt(HELP + "x : long = " + round.opened(18) + "((@1" + round.closed(18), 3);
            check.faultAt(HELP + "x : long = " + round.opened(19) + "(@", 3);
        }
    }

    private void typesWithinOthers() {
        String[] deeper = {"(@long)", "(@)", "(@-> long", "long -> @long", "'a * (@'a)",
            "long -> @(long", "(@(", "double * long -> @="};
        for (Round round : TYPES) {
            for (String[] told : TOLD) {
                for (int others : new int[] {1, 2, 18, 19}) {
                    check.compiled(told[0] + round.opened(others) + "'a" + round.closed(others)
                            + told[1], 1);
                }
                for (String inner : deeper) {
                    check.faultAt(told[0] + round.opened(19) + inner + round.closed(19) + told[1], 3);
                }
                check.faultAt(told[0] + round.opened(19) + "(@", 3);
                check.faultAt(told[0] + round.opened(19) + "long -> @", 3);
            }
        }
    }

    private void kindsAreCountedApart() {
        Round brackets = EXPRS[0];
        String deep = brackets.opened(19) + "long" + brackets.closed(19);
        String inner = "let f = fn (y : " + deep + ") -> 1 in 1";
        check.compiled("x : long = " + brackets.opened(17) + inner + brackets.closed(17) + ";", 1);
        // A TYPE that was told, or an EXPR beside this one, is not one that it lies within.
        check.compiled("x (a : " + deep + ") (b : " + deep + ") : " + deep + " = 1;", 1);
        check.compiled("x : long = " + brackets.opened(19) + "1" + brackets.closed(19) + " + "
                + brackets.opened(19) + "1" + brackets.closed(19) + ";", 1);
        check.compiled("x : " + deep + " * " + deep + " = (1, 1);", 1);
        check.compiled("x (f : " + brackets.opened(18) + "long" + brackets.closed(18) + " -> "
                + brackets.opened(18) + "long" + brackets.closed(18) + ") : long = 1;", 1);
        check.faultAt("x (f : " + brackets.opened(19) + "long" + brackets.closed(19) + " -> "
                + brackets.opened(19) + "@long", 3);
    }

    private void sums() {
        String[] eights = {Check.times(8, " + 1"), Check.times(8, " - 1"), Check.times(4, " + 1 - 1")};
        for (String eight : eights) {
            check.compiled("x : long = 1" + eight + ";", 1);
            check.compiled("x : long = 1" + eight + " < 1" + eight + ";", 1);
            check.compiled("x : long = (1" + eight + ")" + eight + ";", 1);
            check.compiled("x : long = let y = 1" + eight + " in y" + eight + ";", 1);
            check.compiled("x : long = if 1" + eight + " then 1" + eight + " else 1" + eight + ";", 1);
            for (String sign : new String[] {"+", "-"}) {
                for (String behind : new String[] {" 1;", ";", "", " +", " < 1;", " let"}) {
                    check.faultAt("x : long = 1" + eight + " @" + sign + behind, 3);
                    check.faultAt("x : long = 1 < 1" + eight + " @" + sign + behind, 3);
                    check.faultAt("x : long = (1" + eight + " @" + sign + behind, 3);
                }
            }
            check.faultAt("x : long = 1" + eight + " @* 1;", 2);
            check.faultAt("x : long = 1" + eight + " < 1" + eight + " @< 1;", 2);
        }
    }

    private void calls() {
        String fns = "";
        String six = "";
        for (int i = 0; i < 8; i++) {
            fns += "fn (a" + i + " : long) -> ";
            six += i < 6 ? " (p" + i + " : long)" : "";
        }
        String text = "f : " + Check.times(8, "long -> ") + "long = " + fns + "a7; "
                + "d" + six + " : long -> long -> long = fn (a : long) -> fn (b : long) -> b; ";
        String eight = " 1 (2) (fst (3, 3)) 4 5 (6) 7 8";
        for (String head : new String[] {"f", "(f)", "d", "(let y = f in y)"}) {
            check.compiled(text + "x : long = " + head + eight + ";", 3);
            check.compiled(text + "x : long = " + head + eight + " + " + head + eight + ";", 3);
            check.compiled(text + "x : long = " + head + eight.replace("(2)", "(f" + eight + ")") + ";", 3);
            for (String ninth : new String[] {"9;", "#9", "y", "(", "(9)", "(9, 9) 10", "9 10"}) {
                check.faultAt(text + "x : long = " + head + eight + " @" + ninth, 3);
                check.faultAt(text + "x : long = 1 - " + head + eight + " @" + ninth, 3);
            }
            for (String none : new String[] {"", ")", "fst 9", "let", "->", ","}) {
                check.faultAt(text + "x : long = " + head + eight + " @" + none, 2);
            }
        }
    }

    private void stars() {
        String eight = "long" + Check.times(8, " * 'a");
        String inner = "long" + Check.times(7, " * 'a") + " * (" + eight + ")";
        for (String[] told : TOLD) {
            check.compiled(told[0] + eight + told[1], 1);
            check.compiled(told[0] + inner + told[1], 1);
            check.compiled(told[0] + "(" + eight + ")" + Check.times(8, " * long") + told[1], 1);
            check.compiled(told[0] + eight + " -> " + eight + " -> " + eight + told[1], 1);
            for (String behind : new String[] {" long", "", ")", " *", " ->", " ("}) {
                check.faultAt(told[0] + eight + " @*" + behind + told[1], 3);
                check.faultAt(told[0] + "(" + eight + " @*" + behind + told[1], 3);
                check.faultAt(told[0] + inner + " @*" + behind + told[1], 3);
                check.faultAt(told[0] + eight + " -> " + eight + " @*" + behind + told[1], 3);
            }
            check.faultAt(told[0] + eight + " @long" + told[1], 2);
        }
    }

    private static String defs(int number) {
        StringBuilder text = new StringBuilder();
        for (int d = 0; d < number; d++) {
            text.append("d").append(d).append(" : long = 1; ");
        }
        return text.toString();
    }

    private void defs() {
        for (int number : new int[] {1, 2, 29, 30}) {
            check.compiled(defs(number), number);
        }
        for (String more : new String[] {"@e : long = 1;", "@d1 : long = 1;", "@e", "@e : long = 1; e"}) {
            check.faultAt(defs(30) + more, 4);
        }
        // What can't begin a DEF is no 31st one, and so it can't stand there.
        for (String none : new String[] {"@;", "@(e", "@1", "@long : long = 1;"}) {
            check.faultAt(defs(30) + none, 2);
        }
        check.faultAt(defs(29) + "e : long = 1; @f : long = 1;", 4);
    }

    private static String parameters(int number) {
        StringBuilder text = new StringBuilder();
        for (int i = 0; i < number; i++) {
            text.append(" (p").append(i).append(" : long)");
        }
        return text.toString();
    }

    private void parameters() {
        for (int number = 0; number <= 6; number++) {
            BoxedCore core = check.compiled("x" + parameters(number) + " : long = 1;", 1);
            check.same("parameters", number, core.def(0, 0));
        }
        for (String more : new String[] {"@q : long) : long = 1;", "@q", "@p0 : long)", "@q )"}) {
            check.faultAt("x" + parameters(6) + " (" + more, 4);
        }
        for (String none : new String[] {"@", "@)", "@long", "@1"}) {
            check.faultAt("x" + parameters(6) + " (" + none, 2);
        }
        // Each DEF has six of its own.
        check.compiled("x" + parameters(6) + " : long = 1; y" + parameters(6) + " : long = 1;", 2);
        check.faultAt("x" + parameters(6) + " : long = 1; y" + parameters(6) + " (@q", 4);
    }

    private void locals() {
        String let = "let y = 1 in ";
        String fn = "fn (y : long) -> ";
        for (int number = 0; number <= 6; number++) {
            String head = "x" + parameters(number) + " : long = ";
            int half = (24 - number) / 2;
            int rest = 24 - number - half;
            String text = head + "(" + Check.times(half, let) + "1) + (" + Check.times(rest - 1, let);
            check.compiled(text + let + "1);", 1);
            check.faultAt(text + let + "let @y = 1 in 1);", 4);
            check.faultAt(text + let + "let @y", 4);
            check.faultAt(text + let + "let @1 = 1 in 1);", 2);
            check.faultAt(text + let + "fn (@y : long) -> 1);", 4);
            check.faultAt(text + let + "fn (@y", 4);
            check.faultAt(text + let + "fn (@long", 2);
            check.faultAt(text + "let y = let @z = 1 in 1 in 1);", 4);
            String fns = head + "let f = " + Check.times(half - 1, fn) + "1 in let g = "
                    + Check.times(rest - 2, fn);
            check.compiled(fns + fn + "1 in 1;", 1);
            check.faultAt(fns + fn + "fn (@y : long) -> 1 in 1;", 4);
            check.faultAt(fns + fn + "1 in let @y = 1 in 1;", 4);
        }
        // Each DEF has its own, and those whose scope has ended are counted, too.
        String full = " : long = (" + Check.times(12, let) + "1) + (" + Check.times(12, let) + "1); ";
        check.compiled("x" + full + "y" + full, 2);
        check.faultAt("x" + full + "y" + full.replace("1); ", "1) + (let @y = 1 in 1); "), 4);
    }

    /** 24 locals whose scopes lie within one another: each NAME means its own. */
    private void everyLocalIsItsOwn() {
        StringBuilder text = new StringBuilder("x" + parameters(6) + " : long = ");
        for (int i = 6; i < 24; i++) {
            text.append("let p").append(i).append(" = ").append(1 << i).append(" in ");
        }
        for (int i = 0; i < 24; i++) {
            text.append(i % 9 > 0 ? " + " : i == 0 ? "(" : ") + (").append("p").append(i);
        }
        BoxedCore core = check.compiled(text + ");", 1);
        for (int i = 0; i < 6; i++) {
            core.argument(1 << i);
        }
        check.same("run with 24 locals", 1, core.run(0, false, 20000));
        check.same("each has its own value", (1 << 24) - 1, core.result(1));
    }

    private void leaves() {
        String nine = "long" + Check.times(7, " * 'a") + " * double";
        String hundred = Check.times(11, nine + " -> ") + "'a";
        String brackets = "(" + hundred.replace(" -> ", ") -> (") + ")";
        for (String[] told : TOLD) {
            for (String full : new String[] {hundred, brackets, "(" + hundred + ")"}) {
                check.compiled(told[0] + full + told[1], 1);
                for (String more : new String[] {"@long", "@double", "@'a", "(@long", "@long * long"}) {
                    check.faultAt(told[0] + full + " -> " + more + told[1], 4);
                    check.faultAt(told[0] + full + " * " + more + told[1], 4);
                }
                for (String none : new String[] {"@", "@)", "@1", "(@", "(@)"}) {
                    check.faultAt(told[0] + full + " -> " + none, 2);
                }
            }
        }
        // Each TYPE that is told has a hundred of its own.
        check.compiled("x (a : " + hundred + ") (b : " + hundred + ") : " + hundred
                + " = let f = fn (c : " + hundred + ") -> 1 in a;", 1);
        check.faultAt("x (a : " + hundred + ") (b : " + hundred + " -> @long)", 4);
    }

    /** Of 2, 3, 4 that at the first TOKEN; of two at the same one 3 comes before 2. */
    private void whatComesFirst() {
        String nine = Check.times(9, " + 1");
        String six = "x" + parameters(6);
        check.faultAt("x : long = 1 @: 1" + nine, 2);
        check.faultAt(six + " (@p6 : long) : long = 1" + nine + "; ;", 4);
        check.faultAt("x : long = 1" + Check.times(8, " + 1") + " @+ 1; " + six + " (p6 : long)", 3);
        check.faultAt("x : long = 1" + Check.times(8, " + 1") + " @+ ; ; ;", 3);
        check.faultAt("x : @; = 1" + nine + "; " + six + " (p6 : long)", 2);
        check.faultAt("x : long = " + Check.times(20, "(") + "@;", 3);
        check.faultAt("x : " + Check.times(20, "(") + "@;", 3);
        check.faultAt("x : " + Check.times(20, "long -> ") + "@=", 3);
        // The 101st of a TYPE that lies within 20 others: 3 is named before 4.
        String five = "long" + Check.times(4, " * long") + " -> ";
        check.faultAt("x : " + Check.times(20, five) + "@long = 1;", 3);
        check.faultAt("x : " + Check.times(19, five) + "long" + Check.times(4, " * long") + " * @long", 4);
        check.faultAt(defs(30) + "@e" + nine, 4);
        check.faultAt(defs(30) + "@;" + " e : long = 1;", 2);
    }
}
