/** Promises 1 to 12: what each call takes and refuses, and that a refused one changes nothing. */
final class CallEdgesTest {
    private static final int LEAST = Integer.MIN_VALUE;
    private static final int MOST = Integer.MAX_VALUE;
    private static final String PAIR = "x (n : long) : long * long = (n, 2); y : long = 1;";

    private final Check check = new Check();

    public static void main(String[] args) {
        CallEdgesTest test = new CallEdgesTest();
        test.refusedInEveryState();
        test.feedSizes();
        test.feedToTheLimit();
        test.feedAndWipeForget();
        test.wipes();
        test.compileAgain();
        test.placesOfThisText();
        test.sixArguments();
        test.asManyAsParameters();
        test.typesOfParameters();
        test.whichIsThrown();
        test.toldOfTheLastRun();
        test.ways();
        test.rowsAreUsedAgain();
        test.check.end();
    }

    /** Every call that is refused here, and that nothing is changed by any of them. */
    private void refused(String what, BoxedCore core, int octets, int arguments) {
        String before = Check.seen(core);
        for (int n : new int[] {0, -1, 9, 16, LEAST, MOST}) {
            check.illegalArgument("feed " + n + " of " + what, () -> core.feed(n, 0x2020202020202020L));
        }
        int defs = core.defs();
        for (int d : new int[] {-1, defs, defs + 1, LEAST, MOST}) {
            check.outOfBounds("def " + d + " of " + what, () -> core.def(d, 0));
            check.outOfBounds("run " + d + " of " + what, () -> core.run(d, true, 10));
            check.outOfBounds("run " + d + " without steps of " + what, () -> core.run(d, false, -1));
        }
        for (int d = 0; d < defs; d++) {
            int each = d;
            for (int no : new int[] {-1, 6, LEAST, MOST}) {
                check.outOfBounds("def's " + no + " of " + what, () -> core.def(each, no));
            }
            for (int steps : new int[] {-1, 20001, LEAST, MOST}) {
                check.illegalArgument("run of " + steps + " steps of " + what,
                        () -> core.run(each, true, steps));
            }
            if (core.def(d, 0) != arguments) {
                check.illegalArgument("run's arguments of " + what, () -> core.run(each, false, 10));
            }
        }
        for (int no : new int[] {-1, 8, LEAST, MOST}) {
            check.outOfBounds("told " + no + " of " + what, () -> core.told(no));
        }
        if (arguments == 6) {
            check.illegalState("a seventh argument of " + what, () -> core.argument(7));
        }
        check.equal("refused calls change nothing of " + what, before, Check.seen(core));
        if (arguments < 6) {
            check.same("arguments of " + what, arguments + 1, core.argument(5));
        }
        check.same("octets of " + what, octets, core.wipe());
    }

    private void refusedInEveryState() {
        refused("a new one", new BoxedCore(), 0, 0);
        refused("a text", Check.fed(PAIR), PAIR.length(), 0);
        for (int arguments = 0; arguments <= 6; arguments++) {
            BoxedCore core = Check.fed(PAIR);
            core.compile();
            for (int i = 0; i < arguments; i++) {
                core.argument(i);
            }
            refused("a text with " + arguments, core, PAIR.length(), arguments);
        }
        String fault = "x : long = 1; y : long = z;";
        BoxedCore faulty = Check.fed(fault);
        faulty.compile();
        refused("a text with a fault", faulty, fault.length(), 0);
        for (int steps : new int[] {0, 2, 3, 20000}) {
            for (int arguments : new int[] {0, 1, 6}) {
                BoxedCore ran = Check.fed(PAIR);
                ran.compile();
                ran.argument(-5);
                ran.run(0, true, steps);
                for (int i = 0; i < arguments; i++) {
                    ran.argument(i);
                }
                refused("a run of " + steps + " steps", ran, PAIR.length(), arguments);
            }
        }
    }

    private void feedSizes() {
        String text = "x : long = 12345678;";
        for (int n = 1; n <= 8; n++) {
            BoxedCore core = new BoxedCore();
            for (int at = 0; at < text.length(); at += n) {
                int size = Math.min(n, text.length() - at);
                // All above the n lowest octets are of no account.
                long octets = size == 8 ? 0 : -1L << 8 * size;
                for (int i = 0; i < size; i++) {
                    octets |= (long) text.charAt(at + i) << 8 * i;
                }
                check.same("feed " + size, at + size, core.feed(size, octets));
            }
            check.same("compile of pieces of " + n, 1, core.compile());
            check.same("run of pieces of " + n, 1, core.run(0, false, 1));
            check.same("result of pieces of " + n, 12345678, core.result(1));
        }
    }

    private static BoxedCore blanks(int size) {
        return Check.fed(Check.times(size, " "));
    }

    private void feedToTheLimit() {
        for (int n = 1; n <= 8; n++) {
            int each = n;
            BoxedCore just = blanks(3000 - n);
            check.same("just " + n, 3000, just.feed(n, 0x2020202020202020L));
            check.illegalArgument("none behind it", () -> just.feed(1, 32));
            check.same("3000 blanks", 0, just.compile());
            check.same("3000 wiped", 3000, just.wipe());
            BoxedCore over = blanks(3001 - n);
            check.illegalArgument("over by " + n, () -> over.feed(each, 0x2020202020202020L));
            check.same("blanks alone", 0, over.compile());
            if (n > 1) {
                check.same("there is room for less", 3000, over.feed(n - 1, 0x2020202020202020L));
            }
            check.same("3000 wiped in the end", 3000, over.wipe());
            check.same("room again", 8, over.feed(8, 0x2020202020202020L));
        }
    }

    private BoxedCore ran() {
        BoxedCore core = Check.fed(PAIR);
        core.compile();
        core.argument(1);
        core.run(0, true, 20000);
        core.argument(1);
        core.argument(2);
        return core;
    }

    private void feedAndWipeForget() {
        String none = Check.seen(new BoxedCore());
        BoxedCore fed = ran();
        check.same("before", 2, fed.sort(1));
        check.same("feed", PAIR.length() + 1, fed.feed(1, ' '));
        check.equal("all is forgotten", none, Check.seen(fed));
        check.same("the arguments, too", 1, fed.argument(1));
        check.outOfBounds("and what was compiled", () -> fed.run(0, false, 10));
        check.same("until it is again", 2, fed.compile());
        check.same("one argument", 1, fed.run(0, false, 10));
        BoxedCore wiped = ran();
        check.same("wipe", PAIR.length(), wiped.wipe());
        check.equal("all is forgotten by wipe", none, Check.seen(wiped));
        check.same("the arguments by wipe", 1, wiped.argument(1));
        check.outOfBounds("what was compiled by wipe", () -> wiped.run(0, false, 10));
        check.same("an empty text", 0, wiped.compile());
        // A fault's PLACE is forgotten, too.
        BoxedCore fault = Check.fed("x");
        check.same("fault", -2, fault.compile());
        check.same("place", 1, fault.place());
        fault.feed(1, ' ');
        check.same("place after feed", -1, fault.place());
        fault.compile();
        check.same("place compiled again", 2, fault.place());
        fault.wipe();
        check.same("place after wipe", -1, fault.place());
    }

    private void wipes() {
        BoxedCore core = new BoxedCore();
        check.same("empty", 0, core.wipe());
        core.argument(1);
        check.same("empty with an argument", 0, core.wipe());
        check.same("the argument is gone", 1, core.argument(1));
        core.feed(1, 'x');
        check.same("one", 1, core.wipe());
        check.same("empty again", 0, core.wipe());
        check.same("full", 3000, blanks(3000).wipe());
    }

    private void compileAgain() {
        BoxedCore core = ran();
        String before = Check.seen(core);
        check.same("compiled again", 2, core.compile());
        check.equal("nothing is changed by it", before, Check.seen(core));
        check.same("the arguments stay", 3, core.argument(3));
        BoxedCore fault = Check.fed("x : long = 1; x : long = 1;");
        for (int i = 0; i < 3; i++) {
            check.same("the same fault each time", -5, fault.compile());
            check.same("at the same place", 14, fault.place());
        }
        BoxedCore empty = new BoxedCore();
        check.same("nothing", 0, empty.compile());
        check.same("no place in it", -1, empty.place());
    }

    private void placesOfThisText() {
        BoxedCore core = new BoxedCore();
        check.same("before", -1, core.place());
        core.feed(1, '$');
        check.same("not compiled", -1, core.place());
        check.same("fault at 0", -1, core.compile());
        check.same("place 0", 0, core.place());
        check.same("no defs", 0, core.defs());
        core.wipe();
        Check.feed(core, "x : long = 1;");
        check.same("another text", -1, core.place());
        check.same("defs before compile", 0, core.defs());
        check.same("a text without fault", 1, core.compile());
        check.same("defs behind it", 1, core.defs());
        check.same("no fault", -1, core.place());
        Check.feed(core, "y");
        check.same("one DEF was there", 0, core.defs());
        check.same("but now", -2, core.compile());
        check.same("defs with a fault", 0, core.defs());
        check.same("at the end", 14, core.place());
    }

    private void sixArguments() {
        BoxedCore core = check.compiled("x (a : long) (b : double) (c : long) (d : double) (e : long) "
                + "(f : double) : (long * double) * ((long * double) * (long * double)) "
                + "= ((a, b), ((c, d), (e, f)));", 1);
        long[] words = {Long.MIN_VALUE, -1, Long.MAX_VALUE, Long.MIN_VALUE, 0, 0x7ff8000000000000L};
        int[] ways = {4, 5, 12, 13, 14, 15};
        for (int boxes = 0; boxes < 2; boxes++) {
            for (int i = 0; i < 6; i++) {
                check.same("argument " + i, i + 1, core.argument(words[i]));
            }
            check.illegalState("seventh", () -> core.argument(9));
            check.illegalState("seventh again", () -> core.argument(9));
            check.same("run", 1, core.run(0, boxes == 1, 20000));
            for (int i = 0; i < 6; i++) {
                check.same("sort of " + i, i % 2, core.sort(ways[i]));
                check.same("word of " + i, words[i], core.result(ways[i]));
            }
        }
        check.same("they are used up", 1, core.argument(9));
    }

    private void asManyAsParameters() {
        StringBuilder head = new StringBuilder("x");
        for (int parameters = 0; parameters <= 6; parameters++) {
            BoxedCore core = check.compiled(head + " : long = 77;", 1);
            for (int arguments = 0; arguments <= 6; arguments++) {
                if (arguments == parameters) {
                    check.same("run with " + arguments, 1, core.run(0, false, 1));
                    for (int i = 0; i < arguments; i++) {
                        check.same("again from 1", i + 1, core.argument(i));
                    }
                } else {
                    check.illegalArgument(parameters + " parameters, " + arguments + " arguments",
                            () -> core.run(0, false, 1));
                }
                if (arguments < 6) {
                    check.same("they stay", arguments + 1, core.argument(1));
                }
            }
            head.append(" (p").append(parameters).append(parameters % 2 == 0 ? " : long)" : " : double)");
        }
        // Used up also by a run that does not end well.
        BoxedCore core = check.compiled("x (n : long) : long = n; y : long = y;", 2);
        core.argument(1);
        check.same("no steps", 2, core.run(0, false, 0));
        check.same("none are left", 3, core.run(1, false, 20000));
        check.same("the next one is the first", 1, core.argument(1));
    }

    private void typesOfParameters() {
        for (String type : new String[] {"long", "double", "(long)", "((double))"}) {
            BoxedCore core = check.compiled("x (p : " + type + ") : long = 1;", 1);
            core.argument(4);
            check.same("a parameter that is " + type, 1, core.run(0, true, 1));
        }
        for (String type : new String[] {"'a", "'d", "long * long", "long -> long", "(long -> double)",
            "double * 'a", "'a -> long"}) {
            BoxedCore core = check.compiled("x (p : " + type + ") : long = 1; "
                    + "y (n : long) (p : " + type + ") : long = 1; z (p : " + type + ") (n : long) : long = 1; "
                    + "n : long = 1;", 4);
            check.illegalArgument("none for " + type, () -> core.run(0, true, 1));
            core.argument(4);
            check.illegalArgument("one for " + type, () -> core.run(0, true, 1));
            core.argument(4);
            check.illegalArgument("the second of two is " + type, () -> core.run(1, false, 1));
            check.illegalArgument("the first of two is " + type, () -> core.run(2, false, 1));
            check.same("they stay", 3, core.argument(4));
            core.feed(1, ' ');
            core.compile();
            check.same("n takes none", 1, core.run(3, false, 1));
        }
    }

    /** Of two that would do, the one that is named first. */
    private void whichIsThrown() {
        BoxedCore core = check.compiled("x (p : 'a) : long = 1;", 1);
        check.outOfBounds("no DEF, no steps", () -> core.run(1, false, -1));
        check.outOfBounds("no DEF, too many steps", () -> core.run(-1, false, 20001));
        check.outOfBounds("neither DEF nor what", () -> core.def(1, 6));
        check.illegalArgument("no steps, a LETTER, no argument", () -> core.run(0, false, -1));
        BoxedCore full = blanks(3000);
        check.illegalArgument("neither n nor room", () -> full.feed(9, 32));
        check.illegalArgument("no n, though there would be room", () -> full.feed(0, 32));
        check.illegalArgument("less than none", () -> full.feed(-8, 32));
    }

    private void toldOfTheLastRun() {
        BoxedCore core = check.compiled("id (x : 'a) : 'a = x; "
                + "x : long = id (fn (y : long) -> y) 1 + fst (1, 2); y : long = 1;", 3);
        int[] none = {0, 0, 0, 0, 0, 0, 0, 0};
        tolds(core, none);
        core.run(1, true, 20000);
        tolds(core, 10, 2, 2, 2, 1, 1, 5, 2);
        core.run(1, false, 20000);
        tolds(core, 10, 0, 0, 0, 1, 1, 4, 0);
        core.run(2, true, 20000);
        tolds(core, 1, 0, 0, 0, 0, 0, 1, 0);
        core.run(2, true, 0);
        tolds(core, none);
        core.run(1, true, 20000);
        core.feed(1, ' ');
        tolds(core, none);
        core.compile();
        tolds(core, none);
    }

    private void tolds(BoxedCore core, int... due) {
        for (int what = 0; what < 8; what++) {
            check.same("told " + what, due[what], core.told(what));
        }
    }

    private void at(BoxedCore core, int way, int sort, long word) {
        check.same("sort at " + way, sort, core.sort(way));
        check.same("result at " + way, word, core.result(way));
    }

    /** Ways from below 1 to the highest, of results that are no pair, a pair, and deep ones. */
    private void ways() {
        BoxedCore core = check.compiled("x : long = 7; p : long * (double * (long -> long)) "
                + "= (7, (#8, fn (y : long) -> y));", 2);
        int[] outside = {LEAST, LEAST + 1, -2, -1, 0, 8, 9, 12, 15, 16, 1 << 30, MOST - 1, MOST};
        for (int way : outside) {
            at(core, way, -1, 0);
        }
        core.run(0, false, 10);
        at(core, 1, 0, 7);
        for (int way : outside) {
            at(core, way, -1, 0);
        }
        at(core, 2, -1, 0);
        at(core, 3, -1, 0);
        core.run(1, true, 10);
        at(core, 1, 2, 0);
        at(core, 2, 0, 7);
        at(core, 3, 2, 0);
        at(core, 4, -1, 0);
        at(core, 5, -1, 0);
        at(core, 6, 1, 8);
        at(core, 7, 3, 0);
        at(core, 14, -1, 0);
        for (int way : outside) {
            at(core, way, -1, 0);
        }
        // A run that does not end well has no result, though it made the pair.
        check.same("badly", 2, core.run(1, true, 4));
        at(core, 1, -1, 0);
        at(core, 2, -1, 0);
    }

    /** One object reads one text after the other; nothing of those before shows through. */
    private void rowsAreUsedAgain() {
        String[] texts = {"x : 'a = 1;", "x : long = 1;", "x (a : long) (a : long) : long = 1;",
            "id (x : 'a) : 'a = x; x : long = id (id 1);", "id (x : 'a) : 'a = x; x : long = id (1 + 1);",
            "f : long = 1; x : long = f + f - f + f;",
            "x : long = (let y = 1 in y) + y;", "y : long = 1; x (p : 'b) : long = y;",
            "x (f : long -> double) : double = f 1;", "x (f : double -> long) : long = f #1;",
            "x : long = 1 + #1;", "x : long = $;", "x", "", "x : long = let y = (1, #2) in fst y;"};
        for (String before : texts) {
            for (String text : texts) {
                BoxedCore core = Check.fed(before);
                core.compile();
                runLast(core);
                core.wipe();
                Check.feed(core, text);
                BoxedCore fresh = Check.fed(text);
                check.same(text + " behind " + before, fresh.compile(), core.compile());
                runLast(core);
                runLast(fresh);
                check.equal(text + " behind " + before, Check.seen(fresh), Check.seen(core));
            }
        }
    }

    private static void runLast(BoxedCore core) {
        if (core.defs() > 0 && core.def(core.defs() - 1, 0) == 0) {
            core.run(core.defs() - 1, true, 20000);
        }
    }
}
