/** The example of README.md, line by line, and what it says of each answer. */
final class ReadmeTest {
    public static void main(String[] args) {
        Check check = new Check();
        BoxedCore core = new BoxedCore();
        String text = "id (x : 'a) : 'a = x; twice (n : long) : long = id (id (n + n));";
        for (int i = 0; i < text.length(); i++) {
            check.same("feed", i + 1, core.feed(1, text.charAt(i)));
        }
        check.same("compile", 2, core.compile());
        check.same("place", BoxedCore.NONE, core.place());
        check.same("def(1, 5)", 1, core.def(1, 5));
        check.same("argument", 1, core.argument(21));
        check.same("run", 1, core.run(1, true, 1000));
        check.same("sort", 0, core.sort(1));
        check.same("result", 42, core.result(1));
        check.same("told(1)", 1, core.told(1));
        asItIs(check, core);
        withAFault(check);
        check.end();
    }

    private static void asItIs(Check check, BoxedCore core) {
        core.argument(21);
        check.same("run as it is", 1, core.run(1, false, 1000));
        check.same("the same result", 42, core.result(1));
        check.same("no BOX", 0, core.told(1));
    }

    private static void withAFault(Check check) {
        BoxedCore core = Check.fed("one : long = two;");
        check.same("a FAULT", -6, core.compile());
        check.same("its PLACE", 13, core.place());
        check.outOfBounds("no DEF to run", () -> core.run(0, false, 10));
    }
}
