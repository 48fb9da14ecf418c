/** Compares answers, prints those that are not due, and ends with exit code 1 if there was one. */
final class Check {
    private int wrong;
    private int right;

    interface Call {
        long answer();
    }

    void same(String what, long due, long was) {
        if (due == was) {
            right++;
        } else {
            wrong++;
            print(what, "" + due, "" + was);
        }
    }

    void equal(String what, String due, String was) {
        if (due.equals(was)) {
            right++;
        } else {
            wrong++;
            print(what, due, was);
        }
    }

    private static void print(String what, String due, String was) {
        String brief = what.length() > 300 ? what.substring(0, 300) + " .." : what;
        System.out.println(brief + ": due " + due + ", was " + was);
    }

    int failures() {
        return wrong;
    }

    void illegalArgument(String what, Call call) {
        throwing(what, IllegalArgumentException.class, call);
    }

    void illegalState(String what, Call call) {
        throwing(what, IllegalStateException.class, call);
    }

    void outOfBounds(String what, Call call) {
        throwing(what, IndexOutOfBoundsException.class, call);
    }

    private void throwing(String what, Class<?> due, Call call) {
        String was;
        try {
            was = "answer " + call.answer();
        } catch (RuntimeException e) {
            was = e.getClass().getName();
        }
        if (due.getName().equals(was)) {
            right++;
        } else {
            wrong++;
            print(what, due.getName(), was);
        }
    }

    /** A text must compile to so many DEFS. */
    BoxedCore compiled(String text, int defs) {
        BoxedCore core = fed(text);
        same("compile " + text, defs, core.compile());
        same("place of " + text, BoxedCore.NONE, core.place());
        return core;
    }

    /** A text must have a fault at a place. */
    void fault(String text, int fault, int place) {
        BoxedCore core = fed(text);
        same("compile " + text, -fault, core.compile());
        same("place of " + text, place, core.place());
        same("defs of " + text, 0, core.defs());
    }

    /** A text must have a fault where the first '@' stands, which is taken out. */
    void faultAt(String text, int fault) {
        int place = text.indexOf('@');
        fault(text.substring(0, place) + text.substring(place + 1), fault, place);
    }

    /** All that an object tells without being changed by it. */
    static String seen(BoxedCore core) {
        StringBuilder seen = new StringBuilder();
        seen.append("place ").append(core.place()).append(" defs ").append(core.defs());
        for (int d = 0; d < core.defs(); d++) {
            for (int what = 0; what < 6; what++) {
                seen.append(' ').append(core.def(d, what));
            }
        }
        seen.append(" told");
        for (int what = 0; what < 8; what++) {
            seen.append(' ').append(core.told(what));
        }
        for (int way = -1; way < 16; way++) {
            seen.append(" at ").append(core.sort(way)).append(' ').append(core.result(way));
        }
        return seen.toString();
    }

    static BoxedCore fed(String text) {
        BoxedCore core = new BoxedCore();
        feed(core, text);
        return core;
    }

    static void feed(BoxedCore core, String text) {
        for (int i = 0; i < text.length(); i += 8) {
            int n = Math.min(8, text.length() - i);
            long octets = 0;
            for (int j = n - 1; j >= 0; j--) {
                octets = octets << 8 | text.charAt(i + j) & 255;
            }
            core.feed(n, octets);
        }
    }

    static String times(int n, String text) {
        return text.repeat(n);
    }

    void end() {
        System.out.println(right + " answers as due, " + wrong + " not");
        if (wrong > 0) {
            System.exit(1);
        }
    }
}
