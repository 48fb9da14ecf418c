/** Promises 11 and 12: sort, result. */
final class ResultsTest {
    private final Check check = new Check();

    public static void main(String[] args) {
        ResultsTest test = new ResultsTest();
        test.numbers();
        test.pairs();
        test.deepPairs();
        test.functions();
        test.onlyOfRunsThatEndWell();
        test.asTheyAreAndWithBoxes();
        test.check.end();
    }

    private void at(BoxedCore core, int way, int sort, long word) {
        check.same("sort at " + way, sort, core.sort(way));
        check.same("result at " + way, word, core.result(way));
    }

    private BoxedCore ran(String text, boolean boxes) {
        BoxedCore core = Check.fed(text);
        int last = core.compile() - 1;
        check.same("run " + text, 1, core.run(last, boxes, 20000));
        return core;
    }

    private void nothingBeside(BoxedCore core, int... ways) {
        for (int way : ways) {
            at(core, way, -1, 0);
        }
    }

    private void numbers() {
        BoxedCore core = ran("x : long = 0 - 9223372036854775807 - 1;", false);
        at(core, 1, 0, Long.MIN_VALUE);
        nothingBeside(core, 0, -1, 2, 3, 4, Integer.MIN_VALUE, Integer.MAX_VALUE);
        core = ran("x : double = #7ff8000000000001;", false);
        at(core, 1, 1, 0x7ff8000000000001L);
        nothingBeside(core, 0, 2, 3);
        at(ran("x : double = #ffffffffffffffff;", false), 1, 1, -1);
        at(ran("x : double = #1;", false), 1, 1, 1);
    }

    private void pairs() {
        BoxedCore core = ran("x : (long * double) * (double * long) = ((1, #2), (#3, 4));", false);
        at(core, 1, 2, 0);
        at(core, 2, 2, 0);
        at(core, 3, 2, 0);
        at(core, 4, 0, 1);
        at(core, 5, 1, 2);
        at(core, 6, 1, 3);
        at(core, 7, 0, 4);
        nothingBeside(core, 0, -4, 8, 9, 10, 11, 12, 13, 14, 15, 16, 1 << 30, Integer.MAX_VALUE);
    }

    private void deepPairs() {
        // 31 longs in a chain, the last one on the way of 30 second parts and the first above.
        StringBuilder text = new StringBuilder("x0 : long = 77; ");
        String type = "long";
        String expr = "x0";
        for (int group = 1; group <= 4; group++) {
            for (int i = 0; i < 8 - group / 4 * 2; i++) {
                expr = "(" + group + i + ", " + expr + ")";
            }
            type = "long" + Check.times(7 - group / 4 * 2, " * long") + " * (" + type + ")";
            text.append("x" + group + " : " + type + " = " + expr + "; ");
            expr = "x" + group;
        }
        BoxedCore core = ran(text.toString(), true);
        at(core, Integer.MAX_VALUE, 0, 77);
        at(core, Integer.MAX_VALUE - 1, 0, 10);
        at(core, Integer.MAX_VALUE >> 1, 2, 0);
        at(core, 2, 0, 45);
        nothingBeside(core, 1 << 30, -1);
    }

    private void functions() {
        BoxedCore core = ran("x : long * (long -> long) = (5, fn (y : long) -> y);", false);
        at(core, 1, 2, 0);
        at(core, 2, 0, 5);
        at(core, 3, 3, 0);
        nothingBeside(core, 4, 5, 6, 7);
        core = ran("id (x : 'a) : 'a = x; x : long -> long = id (fn (y : long) -> y);", true);
        at(core, 1, 3, 0);
        nothingBeside(core, 2, 3);
    }

    private void onlyOfRunsThatEndWell() {
        BoxedCore core = Check.fed("x : long * long = (1, 2);");
        core.compile();
        nothingBeside(core, 1, 2, 3);
        check.same("well", 1, core.run(0, false, 3));
        at(core, 3, 0, 2);
        check.same("out of steps", 2, core.run(0, false, 2));
        nothingBeside(core, 1, 2, 3);
        check.same("well again", 1, core.run(0, true, 3));
        at(core, 2, 0, 1);
        check.outOfBounds("a run that throws", () -> core.run(1, false, 3));
        check.illegalArgument("another one", () -> core.run(0, false, -1));
        at(core, 2, 0, 1);
        core.compile();
        at(core, 2, 0, 1);
        core.feed(1, ' ');
        nothingBeside(core, 1, 2, 3);
    }

    private void asTheyAreAndWithBoxes() {
        String text = "sw (p : 'a * 'b) : 'b * 'a = (snd p, fst p); "
                + "x : (double * long) * (long * double) = (sw (1, #fff0000000000001), sw (sw (2, #3)));";
        for (int boxes = 0; boxes < 2; boxes++) {
            BoxedCore core = ran(text, boxes == 1);
            at(core, 4, 1, 0xfff0000000000001L);
            at(core, 5, 0, 1);
            at(core, 6, 0, 2);
            at(core, 7, 1, 3);
        }
    }
}
