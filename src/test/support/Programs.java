import java.util.ArrayList;
import java.util.HashMap;
import java.util.List;
import java.util.Map;
import java.util.Random;

/** Makes programs that are mostly well typed, always the same ones from the same seed. */
final class Programs {
    private record Local(String name, Model.Type type) { }

    private record Head(String name, List<Model.Type> types, Model.Type type) { }

    private static final String[] NAMES = {"x", "y", "z", "f", "g", "p", "q", "aa", "b2"};

    private final Random random;
    private final List<Head> heads = new ArrayList<>();
    private List<String> letters = List.of();
    private int budget;
    // Mostly only what stands before a DEF is called in it: all else hardly ever ends.
    private int callable;

    Programs(long seed) {
        random = new Random(seed);
    }

    String program() {
        heads.clear();
        int number = 1 + random.nextInt(7);
        for (int i = 0; i < number; i++) {
            heads.add(head("d" + i));
        }
        StringBuilder text = new StringBuilder();
        for (Head head : heads) {
            callable = random.nextInt(6) == 0 ? number : heads.indexOf(head);
            text.append(def(head)).append(random.nextInt(3) == 0 ? "\n" : " ");
        }
        return text.toString();
    }

    /** Changes, drops or doubles a few pieces of a text, so that most of them get faults. */
    String spoilt(String text) {
        StringBuilder spoilt = new StringBuilder(text);
        String[] pieces = {"(", ")", ":", "=", ";", "->", ",", "*", "+", "-", "<", "long",
            "double", "'a", "'b", "let x = 1 in", "if", "then", "else", "fn (x : long) ->",
            "fst", "snd", "7", "#7", "x", "f", "d0", "d1", "d2", "zz", "@", " ", "(1, 2)"};
        for (int times = 1 + random.nextInt(2); times > 0; times--) {
            int at = random.nextInt(spoilt.length());
            int end = Math.min(spoilt.length(), at + random.nextInt(4));
            String piece = pieces[random.nextInt(pieces.length)];
            spoilt.replace(at, end, random.nextInt(4) == 0 ? "" : " " + piece + " ");
        }
        return spoilt.toString();
    }

    private Head head(String name) {
        int number = random.nextInt(5) == 0 ? 0 : 1 + random.nextInt(3);
        boolean plain = random.nextInt(3) == 0;
        List<String> own = plain ? List.of() : List.of("a", "b").subList(0, 1 + random.nextInt(2));
        List<Model.Type> types = new ArrayList<>();
        for (int i = 0; i < number; i++) {
            types.add(i < own.size() && random.nextInt(3) > 0
                    ? new Model.Type(own.get(i), null, null)
                    : type(plain && random.nextInt(3) > 0 ? 0 : 2, own));
        }
        List<String> used = own.stream()
                .filter(l -> types.stream().anyMatch(t -> t.toString().contains("kind=" + l + ",")))
                .toList();
        Model.Type type = type(2, used);
        // SHORT ways need DEFS that answer a LETTER.
        if (!used.isEmpty() && random.nextInt(3) == 0) {
            type = new Model.Type(used.get(random.nextInt(used.size())), null, null);
        }
        return new Head(name, types, type);
    }

    private Model.Type base(List<String> own) {
        int which = random.nextInt(2 + 2 * own.size());
        if (which < 2) {
            return which == 0 ? Model.LONG : Model.DOUBLE;
        }
        return new Model.Type(own.get(random.nextInt(own.size())), null, null);
    }

    private Model.Type type(int depth, List<String> own) {
        int which = random.nextInt(7);
        if (depth == 0 || which > 2) {
            return base(own);
        }
        return new Model.Type(which == 0 ? "*" : "->", type(depth - 1, own), type(depth - 1, own));
    }

    static String told(Model.Type type) {
        if (type.left() == null) {
            return type.isLetter() ? "'" + type.kind() : type.kind();
        }
        return "(" + told(type.left()) + " " + type.kind() + " " + told(type.right()) + ")";
    }

    private String def(Head head) {
        StringBuilder text = new StringBuilder(head.name);
        List<Local> scope = new ArrayList<>();
        letters = new ArrayList<>();
        for (Model.Type type : head.types) {
            String name = NAMES[scope.size()];
            scope.add(new Local(name, type));
            text.append(" (").append(name).append(" : ").append(told(type)).append(")");
            for (String letter : List.of("a", "b")) {
                if (type.toString().contains("kind=" + letter + ",") && !letters.contains(letter)) {
                    letters.add(letter);
                }
            }
        }
        budget = 12;
        String expr = expr(head.type, scope, 5);
        text.append(" : ").append(told(head.type)).append(" = ").append(expr).append(";");
        return text.toString();
    }

    private String expr(Model.Type type, List<Local> scope, int depth) {
        budget--;
        for (int tries = 0; tries < 8 && depth > 0 && budget > 0; tries++) {
            String made = some(random.nextInt(12), type, scope, depth - 1);
            if (made != null) {
                return made;
            }
        }
        return plainest(type, scope, 0);
    }

    private String atom(Model.Type type, List<Local> scope, int depth) {
        String made = expr(type, scope, depth);
        return made.matches("[a-z0-9#]+") ? made : "(" + made + ")";
    }

    private String some(int which, Model.Type type, List<Local> scope, int depth) {
        switch (which) {
            case 0:
                return local(type, scope);
            case 1:
                Model.Type bound = type(2, letters);
                String name = NAMES[random.nextInt(NAMES.length)];
                return "let " + name + " = " + expr(bound, scope, depth) + " in "
                        + expr(type, with(scope, name, bound), depth);
            case 2:
                return "if " + expr(Model.LONG, scope, depth) + " then " + expr(type, scope, depth)
                        + " else " + expr(type, scope, depth);
            case 3:
                Model.Type other = type(1, letters);
                boolean first = random.nextBoolean();
                return (first ? "fst " : "snd ") + atom(new Model.Type("*", first ? type : other,
                        first ? other : type), scope, depth);
            case 4:
                Model.Type from = type(1, letters);
                return atom(new Model.Type("->", from, type), scope, depth) + " "
                        + atom(from, scope, depth);
            case 5:
            case 6:
                return structure(type, scope, depth);
            default:
                return callOfDef(type, scope, depth);
        }
    }

    private String structure(Model.Type type, List<Local> scope, int depth) {
        if (type.kind().equals("*")) {
            return "(" + expr(type.left(), scope, depth) + ", " + expr(type.right(), scope, depth)
                    + ")";
        }
        if (type.kind().equals("->")) {
            String name = NAMES[random.nextInt(NAMES.length)];
            return "fn (" + name + " : " + told(type.left()) + ") -> "
                    + expr(type.right(), with(scope, name, type.left()), depth);
        }
        if (type != Model.LONG) {
            return null;
        }
        String sign = new String[] {" + ", " - ", " < "}[random.nextInt(3)];
        return atom(type, scope, depth) + sign + atom(type, scope, depth);
    }

    private String local(Model.Type type, List<Local> scope) {
        List<String> found = new ArrayList<>();
        for (int i = scope.size() - 1; i >= 0; i--) {
            Local local = scope.get(i);
            boolean hidden = scope.subList(i + 1, scope.size()).stream()
                    .anyMatch(l -> l.name.equals(local.name));
            if (!hidden && local.type.equals(type)) {
                found.add(local.name);
            }
        }
        return found.isEmpty() ? null : found.get(random.nextInt(found.size()));
    }

    private String callOfDef(Model.Type type, List<Local> scope, int depth) {
        if (callable == 0) {
            return null;
        }
        Head head = heads.get(random.nextInt(callable));
        if (scope.stream().anyMatch(l -> l.name.equals(head.name))) {
            return null;
        }
        Map<String, Model.Type> fits = new HashMap<>();
        Model.Type answer = head.type;
        int more = 0;
        while (!fits(answer, type, fits)) {
            if (!answer.kind().equals("->")) {
                return null;
            }
            answer = answer.right();
            more++;
        }
        for (String letter : List.of("a", "b")) {
            fits.putIfAbsent(letter, type(1, letters));
        }
        StringBuilder text = new StringBuilder(head.name);
        for (Model.Type parameter : head.types) {
            text.append(" ").append(atom(parameter.with(fits), scope, depth));
        }
        answer = head.type;
        for (int i = 0; i < more; i++) {
            text.append(" ").append(atom(answer.left().with(fits), scope, depth));
            answer = answer.right();
        }
        return text.toString();
    }

    private static boolean fits(Model.Type pattern, Model.Type type,
            Map<String, Model.Type> fits) {
        if (pattern.isLetter()) {
            Model.Type before = fits.putIfAbsent(pattern.kind(), type);
            return before == null || before.equals(type);
        }
        return pattern.kind().equals(type.kind()) && (pattern.left() == null
                || fits(pattern.left(), type.left(), fits)
                && fits(pattern.right(), type.right(), fits));
    }

    private static List<Local> with(List<Local> scope, String name, Model.Type type) {
        List<Local> inner = new ArrayList<>(scope);
        inner.add(new Local(name, type));
        return inner;
    }

    private String plainest(Model.Type type, List<Local> scope, int depth) {
        String found = local(type, scope);
        if (found != null && random.nextInt(4) > 0) {
            return found;
        }
        switch (type.kind()) {
            case "long":
                return "" + random.nextInt(10);
            case "double":
                return "#" + Integer.toHexString(random.nextInt(1000));
            case "*":
                return "(" + plainest(type.left(), scope, depth) + ", "
                        + plainest(type.right(), scope, depth) + ")";
            case "->":
                String name = NAMES[random.nextInt(NAMES.length)];
                return "fn (" + name + " : " + told(type.left()) + ") -> "
                        + plainest(type.right(), with(scope, name, type.left()), depth);
            default:
                return found != null ? found : fromParts(type, scope, depth);
        }
    }

    /** A LETTER's value can only come out of what the locals hold. */
    private String fromParts(Model.Type type, List<Local> scope, int depth) {
        for (Local local : scope) {
            if (local.type.kind().equals("*") && local.type.left().equals(type)) {
                return "fst " + local.name;
            }
            if (local.type.kind().equals("*") && local.type.right().equals(type)) {
                return "snd " + local.name;
            }
            if (depth < 3 && local.type.kind().equals("->") && local.type.right().equals(type)
                    && !told(local.type.left()).contains(told(type))) {
                String argument = plainest(local.type.left(), scope, depth + 1);
                return local.name + " "
                        + (argument.matches("[a-z0-9#]+") ? argument : "(" + argument + ")");
            }
        }
        return "nowhere";
    }
}
