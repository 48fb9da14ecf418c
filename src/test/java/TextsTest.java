/** Promises 1 to 3: a new object, feed, wipe. */
final class TextsTest {
    private static final String ONE = "x : long = 1;";

    private final Check check = new Check();

    public static void main(String[] args) {
        TextsTest test = new TextsTest();
        test.newObject();
        test.feedOrder();
        test.feedBounds();
        test.feedForgets();
        test.throwingFeedChangesNothing();
        test.wipe();
        test.check.end();
    }

    private void newObject() {
        BoxedCore core = new BoxedCore();
        check.same("NONE", -1, BoxedCore.NONE);
        check.same("defs of a new one", 0, core.defs());
        check.same("place of a new one", -1, core.place());
        nothingRan("a new one", core);
        check.outOfBounds("def of a new one", () -> core.def(0, 0));
        check.outOfBounds("run of a new one", () -> core.run(0, false, 10));
        check.same("wipe of a new one", 0, core.wipe());
        check.same("the empty text", 0, core.compile());
        check.same("defs of the empty text", 0, core.defs());
        check.same("place of the empty text", -1, core.place());
        check.outOfBounds("run of the empty text", () -> core.run(0, false, 10));
        check.same("first argument", 1, core.argument(5));
    }

    private void nothingRan(String what, BoxedCore core) {
        for (int i = 0; i < 8; i++) {
            check.same("told " + i + " of " + what, 0, core.told(i));
        }
        check.same("sort of " + what, -1, core.sort(1));
        check.same("result of " + what, 0, core.result(1));
    }

    private void feedOrder() {
        BoxedCore core = new BoxedCore();
        check.same("feed 8", 8, core.feed(8, 0x676e6f6c203a2078L));
        check.same("feed 5, all octets above cut", 13, core.feed(5, 0xffffff3b31203d20L));
        check.same("x : long = 1;", 1, core.compile());
        check.same("its steps", 1, core.run(0, false, 1));
        check.same("its result", 1, core.result(1));
        BoxedCore high = new BoxedCore();
        check.same("octet 255", 1, high.feed(1, -1));
        check.same("no token begins with 255", -1, high.compile());
        check.same("its place", 0, high.place());
    }

    private void feedBounds() {
        BoxedCore core = new BoxedCore();
        for (int n : new int[] {0, -1, 9, Integer.MIN_VALUE, Integer.MAX_VALUE}) {
            check.illegalArgument("feed " + n, () -> core.feed(n, 32));
        }
        for (int i = 1; i < 375; i++) {
            core.feed(8, 0x2020202020202020L);
        }
        check.illegalArgument("0 at the end", () -> core.feed(0, 32));
        check.same("2999", 2999, core.feed(7, 0x20202020202020L));
        check.illegalArgument("3001", () -> core.feed(2, 0x2020));
        check.illegalArgument("far more", () -> core.feed(Integer.MAX_VALUE, 0x2020));
        check.same("3000", 3000, core.feed(1, ';'));
        check.illegalArgument("one more", () -> core.feed(1, 32));
        check.same("all is read", -2, core.compile());
        check.same("up to the last octet", 2999, core.place());
        check.same("wipe", 3000, core.wipe());
        check.same("there is room again", 8, core.feed(8, 0x2020202020202020L));
    }

    private void feedForgets() {
        BoxedCore core = Check.fed("x (n : long) : long = n + 1;");
        core.compile();
        core.argument(3);
        check.same("run", 1, core.run(0, false, 10));
        core.argument(4);
        core.feed(1, ' ');
        check.same("defs after feed", 0, core.defs());
        check.outOfBounds("def after feed", () -> core.def(0, 0));
        check.outOfBounds("run after feed", () -> core.run(0, false, 10));
        nothingRan("after feed", core);
        check.same("arguments after feed", 1, core.argument(9));
        check.same("compiled anew", 1, core.compile());
        nothingRan("after compile", core);
        check.same("run with the new argument", 1, core.run(0, false, 10));
        check.same("its result", 10, core.result(1));
        BoxedCore faulty = Check.fed("x");
        check.same("fault", -2, faulty.compile());
        check.same("place", 1, faulty.place());
        faulty.feed(1, ' ');
        check.same("place after feed", -1, faulty.place());
        check.same("fault further on", -2, faulty.compile());
        check.same("place further on", 2, faulty.place());
    }

    private void throwingFeedChangesNothing() {
        BoxedCore core = Check.fed(ONE);
        core.compile();
        core.run(0, false, 10);
        core.argument(7);
        check.illegalArgument("feed 9", () -> core.feed(9, 32));
        check.same("defs stay", 1, core.defs());
        check.same("the run stays", 1, core.told(0));
        check.same("the result stays", 1, core.result(1));
        check.same("the arguments stay", 2, core.argument(8));
        check.same("the text stays", ONE.length(), core.wipe());
    }

    private void wipe() {
        BoxedCore core = Check.fed(ONE);
        core.compile();
        core.run(0, false, 10);
        core.argument(7);
        check.same("wipe", ONE.length(), core.wipe());
        check.same("defs after wipe", 0, core.defs());
        check.outOfBounds("run after wipe", () -> core.run(0, false, 10));
        nothingRan("after wipe", core);
        check.same("arguments after wipe", 1, core.argument(9));
        check.same("wipe again", 0, core.wipe());
        check.same("empty", 0, core.compile());
        Check.feed(core, "y");
        check.same("a new text alone", -2, core.compile());
        check.same("its place", 1, core.place());
        core.wipe();
        check.same("place after wipe", -1, core.place());
    }
}
