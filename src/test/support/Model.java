import java.util.ArrayList;
import java.util.HashMap;
import java.util.List;
import java.util.Map;
import java.util.regex.Matcher;
import java.util.regex.Pattern;

/**
 * The document once more, written as plainly as can be: trees of objects, recursion, values
 * that know what they are. It serves only to be compared with BoxedCore.
 */
final class Model {
    static final class Stop extends RuntimeException {
        final int code;
        final int place;

        Stop(int code, int place) {
            super(null, null, false, false);
            this.code = code;
            this.place = place;
        }
    }

    record Token(String kind, String text, int place) { }

    /** kind: "long", "double", "a" .. "d", "*", "->". */
    record Type(String kind, Type left, Type right) {
        int leaves() {
            return left == null ? 1 : left.leaves() + right.leaves();
        }

        boolean isLetter() {
            return kind.length() == 1 && !kind.equals("*");
        }

        boolean hasLetter() {
            return isLetter() || left != null && (left.hasLetter() || right.hasLetter());
        }

        Type with(Map<String, Type> fits) {
            if (isLetter()) {
                return fits.get(kind);
            }
            return left == null ? this : new Type(kind, left.with(fits), right.with(fits));
        }
    }

    static final class Expr {
        final String kind;
        int place;
        String name;
        long word;
        Type told;
        final List<Expr> parts = new ArrayList<>();
        boolean bare;
        Type type;
        Def def;
        Map<String, Type> fits;
        boolean shortWay;

        Expr(String kind, int place) {
            this.kind = kind;
            this.place = place;
        }
    }

    static final class Def {
        String name;
        int place;
        final List<String> names = new ArrayList<>();
        final List<Integer> namePlaces = new ArrayList<>();
        final List<Type> types = new ArrayList<>();
        final List<Token> resultLetters = new ArrayList<>();
        final List<Token> fnLetters = new ArrayList<>();
        Type type;
        Expr expr;
        int locals;
        final int[] tallies = new int[6];
    }

    static final Type LONG = new Type("long", null, null);
    static final Type DOUBLE = new Type("double", null, null);
    private static final Pattern TOKEN = Pattern.compile(
            "(?<name>[a-z][a-z0-9]*)|(?<number>[0-9]+)|(?<bits>#[0-9a-f]*)|(?<letter>'[a-d])"
            + "|(?<sign>->|[():=;,*+<-])");
    private static final List<String> WORDS = List.of("long", "double", "let", "in", "if",
            "then", "else", "fn", "fst", "snd");

    final List<Def> defs = new ArrayList<>();
    int answer;
    int place = -1;

    private final List<Token> tokens = new ArrayList<>();
    private int size;
    private int at;
    private Def def;
    private int leaves;

    Model(String text) {
        try {
            scan(text);
            while (at < tokens.size()) {
                readDef();
            }
            clashes();
            for (Def d : defs) {
                check(d);
            }
            defs.forEach(this::count);
            answer = defs.size();
        } catch (Stop stop) {
            answer = -stop.code;
            place = stop.place;
            defs.clear();
        }
    }

    // ---- reading ----

    private void scan(String text) {
        size = text.length();
        Matcher matcher = TOKEN.matcher(text);
        for (int i = 0; i < size;) {
            if (text.charAt(i) == ' ' || text.charAt(i) == '\n') {
                i++;
                continue;
            }
            if (!matcher.region(i, size).lookingAt() || tokens.size() == 900) {
                throw new Stop(1, i);
            }
            String token = matcher.group();
            tokens.add(new Token(kindOf(matcher, token, i), token, i));
            i = matcher.end();
        }
    }

    private static String kindOf(Matcher matcher, String token, int i) {
        if (matcher.group("name") != null) {
            if (token.length() > 10) {
                throw new Stop(1, i);
            }
            return WORDS.contains(token) ? token : "name";
        }
        if (matcher.group("number") != null) {
            if (new java.math.BigInteger(token).bitLength() > 63) {
                throw new Stop(1, i);
            }
            return "number";
        }
        if (matcher.group("bits") != null) {
            if (token.length() < 2 || token.length() > 17) {
                throw new Stop(1, i);
            }
            return "bits";
        }
        return matcher.group("letter") != null ? "letter" : token;
    }

    private boolean is(String kind) {
        return at < tokens.size() && tokens.get(at).kind.equals(kind);
    }

    private int here() {
        return at < tokens.size() ? tokens.get(at).place : size;
    }

    private Token take(String kind) {
        if (!is(kind)) {
            throw new Stop(2, here());
        }
        return tokens.get(at++);
    }

    private void readDef() {
        if (is("name") && defs.size() == 30) {
            throw new Stop(4, here());
        }
        Token name = take("name");
        def = new Def();
        defs.add(def);
        def.name = name.text;
        def.place = name.place;
        while (is("(")) {
            take("(");
            if (is("name") && def.names.size() == 6) {
                throw new Stop(4, here());
            }
            Token parameter = takeLocal();
            def.names.add(parameter.text);
            def.namePlaces.add(parameter.place);
            take(":");
            def.types.add(readTold(new ArrayList<>()));
            take(")");
        }
        take(":");
        def.type = readTold(def.resultLetters);
        take("=");
        def.expr = readExpr(0);
        take(";");
    }

    private Token takeLocal() {
        if (is("name") && def.locals == 24) {
            throw new Stop(4, here());
        }
        Token name = take("name");
        def.locals++;
        return name;
    }

    private Type readTold(List<Token> letters) {
        leaves = 0;
        return readType(0, letters);
    }

    private Type readType(int within, List<Token> letters) {
        if (within == 20) {
            throw new Stop(3, here());
        }
        Type part = readPart(within, letters, 0);
        if (!is("->")) {
            return part;
        }
        at++;
        return new Type("->", part, readType(within + 1, letters));
    }

    private Type readPart(int within, List<Token> letters, int stars) {
        Type base = readBase(within, letters);
        if (!is("*")) {
            return base;
        }
        if (stars == 8) {
            throw new Stop(3, here());
        }
        at++;
        return new Type("*", base, readPart(within, letters, stars + 1));
    }

    private Type readBase(int within, List<Token> letters) {
        if (is("(")) {
            at++;
            Type type = readType(within + 1, letters);
            take(")");
            return type;
        }
        if (!is("long") && !is("double") && !is("letter")) {
            throw new Stop(2, here());
        }
        if (++leaves > 100) {
            throw new Stop(4, here());
        }
        Token token = tokens.get(at++);
        if (token.kind.equals("letter")) {
            letters.add(token);
            return new Type(token.text.substring(1), null, null);
        }
        return token.kind.equals("long") ? LONG : DOUBLE;
    }

    private Expr readExpr(int within) {
        if (within == 20) {
            throw new Stop(3, here());
        }
        Expr expr = new Expr(at < tokens.size() ? tokens.get(at).kind : "end", here());
        switch (expr.kind) {
            case "let":
                at++;
                expr.name = takeLocal().text;
                take("=");
                expr.parts.add(readExpr(within + 1));
                take("in");
                expr.parts.add(readExpr(within + 1));
                return expr;
            case "if":
                at++;
                expr.parts.add(readExpr(within + 1));
                take("then");
                expr.parts.add(readExpr(within + 1));
                take("else");
                expr.parts.add(readExpr(within + 1));
                return expr;
            case "fn":
                at++;
                take("(");
                expr.name = takeLocal().text;
                take(":");
                expr.told = readTold(def.fnLetters);
                take(")");
                take("->");
                expr.parts.add(readExpr(within + 1));
                return expr;
            default:
                Expr left = readSum(within);
                if (!is("<")) {
                    return left;
                }
                Expr less = new Expr("<", take("<").place);
                less.parts.add(left);
                less.parts.add(readSum(within));
                return less;
        }
    }

    private Expr readSum(int within) {
        Expr left = readCall(within);
        for (int signs = 0; is("+") || is("-"); signs++) {
            if (signs == 8) {
                throw new Stop(3, here());
            }
            Token sign = tokens.get(at++);
            Expr sum = new Expr(sign.kind, sign.place);
            sum.parts.add(left);
            sum.parts.add(readCall(within));
            left = sum;
        }
        return left;
    }

    private Expr readCall(int within) {
        if (is("fst") || is("snd")) {
            Token word = tokens.get(at++);
            Expr half = new Expr(word.kind, word.place);
            half.parts.add(readAtom(within));
            return half;
        }
        Expr head = readAtom(within);
        if (!beginsAtom()) {
            head.bare = false;
            return head;
        }
        Expr call = new Expr("call", head.place);
        call.parts.add(head);
        while (beginsAtom()) {
            if (call.parts.size() == 9) {
                throw new Stop(3, here());
            }
            Expr atom = readAtom(within);
            atom.bare = false;
            call.parts.add(atom);
        }
        return call;
    }

    private boolean beginsAtom() {
        return is("number") || is("bits") || is("name") || is("(");
    }

    private Expr readAtom(int within) {
        if (is("(")) {
            at++;
            Expr inner = readExpr(within + 1);
            inner.bare = false;
            if (is(",")) {
                Expr pair = new Expr(",", take(",").place);
                pair.parts.add(inner);
                pair.parts.add(readExpr(within + 1));
                inner = pair;
            }
            take(")");
            return inner;
        }
        if (!beginsAtom()) {
            throw new Stop(2, here());
        }
        Token token = tokens.get(at++);
        Expr atom = new Expr(token.kind, token.place);
        if (token.kind.equals("name")) {
            atom.name = token.text;
            atom.bare = true;
        } else {
            atom.word = token.kind.equals("number") ? Long.parseLong(token.text)
                    : Long.parseUnsignedLong(token.text.substring(1), 16);
        }
        return atom;
    }

    // ---- typing ----

    private void clashes() {
        List<String> names = new ArrayList<>();
        for (Def d : defs) {
            int first = Integer.MAX_VALUE;
            if (names.contains(d.name)) {
                first = d.place;
            }
            names.add(d.name);
            for (int i = 0; i < d.names.size(); i++) {
                if (d.names.subList(0, i).contains(d.names.get(i))) {
                    first = Math.min(first, d.namePlaces.get(i));
                }
            }
            List<Token> others = new ArrayList<>(d.resultLetters);
            others.addAll(d.fnLetters);
            for (Token letter : others) {
                if (!letters(d).contains(letter.text.substring(1))) {
                    first = Math.min(first, letter.place);
                }
            }
            if (first < Integer.MAX_VALUE) {
                throw new Stop(5, first);
            }
        }
    }

    private static String letters(Def d) {
        StringBuilder found = new StringBuilder();
        for (String letter : List.of("a", "b", "c", "d")) {
            if (d.types.stream().anyMatch(t -> hasLetter(t, letter))) {
                found.append(letter);
            }
        }
        return found.toString();
    }

    private static boolean hasLetter(Type type, String letter) {
        return type.left == null ? type.kind.equals(letter)
                : hasLetter(type.left, letter) || hasLetter(type.right, letter);
    }

    private Def find(String name) {
        return defs.stream().filter(d -> d.name.equals(name)).findFirst().orElse(null);
    }

    private void check(Def d) {
        Map<String, Type> scope = new HashMap<>();
        for (int i = 0; i < d.names.size(); i++) {
            scope.put(d.names.get(i), d.types.get(i));
        }
        if (!type(d.expr, scope).equals(d.type)) {
            throw new Stop(7, d.place);
        }
    }

    private static Map<String, Type> with(Map<String, Type> scope, String name, Type type) {
        Map<String, Type> inner = new HashMap<>(scope);
        inner.put(name, type);
        return inner;
    }

    private Type type(Expr e, Map<String, Type> scope) {
        e.type = ownType(e, scope);
        if (e.type == null || e.type.leaves() > 200) {
            throw new Stop(7, e.place);
        }
        return e.type;
    }

    private Type ownType(Expr e, Map<String, Type> scope) {
        switch (e.kind) {
            case "number":
                return LONG;
            case "bits":
                return DOUBLE;
            case "name":
                return typeOfName(e, scope);
            case "let":
                Type bound = type(e.parts.get(0), scope);
                return type(e.parts.get(1), with(scope, e.name, bound));
            case "fn":
                return new Type("->", e.told, type(e.parts.get(0), with(scope, e.name, e.told)));
            case "call":
                return typeOfCall(e, scope);
            default:
                List<Type> types = new ArrayList<>();
                for (Expr part : e.parts) {
                    types.add(type(part, scope));
                }
                return typeOf(e.kind, types);
        }
    }

    private static Type typeOf(String kind, List<Type> types) {
        Type first = types.get(0);
        switch (kind) {
            case "if":
                return first == LONG && types.get(1).equals(types.get(2)) ? types.get(1) : null;
            case ",":
                return new Type("*", first, types.get(1));
            case "fst":
                return first.kind.equals("*") ? first.left : null;
            case "snd":
                return first.kind.equals("*") ? first.right : null;
            default:
                return first == LONG && types.get(1) == LONG ? LONG : null;
        }
    }

    private Type typeOfName(Expr e, Map<String, Type> scope) {
        if (scope.containsKey(e.name)) {
            return scope.get(e.name);
        }
        e.def = find(e.name);
        if (e.def == null) {
            throw new Stop(6, e.place);
        }
        return e.def.names.isEmpty() ? e.def.type : null;
    }

    private Type typeOfCall(Expr e, Map<String, Type> scope) {
        Expr head = e.parts.get(0);
        Def callee = head.bare && !scope.containsKey(head.name) ? find(head.name) : null;
        int number = callee == null ? 0 : callee.names.size();
        Type type = null;
        if (number == 0) {
            type = type(head, scope);
        } else {
            e.def = callee;
        }
        for (Expr atom : e.parts.subList(1, e.parts.size())) {
            type(atom, scope);
        }
        if (number > 0) {
            if (e.parts.size() <= number) {
                return null;
            }
            e.fits = new HashMap<>();
            for (int i = 0; i < number; i++) {
                if (!fit(callee.types.get(i), e.parts.get(i + 1).type, e.fits)) {
                    return null;
                }
            }
            type = callee.type.with(e.fits);
        }
        for (int i = number + 1; i < e.parts.size(); i++) {
            if (!type.kind.equals("->") || !type.left.equals(e.parts.get(i).type)) {
                return null;
            }
            type = type.right;
        }
        if (number == 0) {
            return type;
        }
        for (int i = 0; i < number; i++) {
            Expr atom = e.parts.get(i + 1);
            atom.shortWay = callee.types.get(i).isLetter() && atom.kind.equals("call")
                    && atom.def != null && atom.parts.size() == atom.def.names.size() + 1
                    && atom.def.type.isLetter();
        }
        return type;
    }

    private static boolean fit(Type pattern, Type type, Map<String, Type> fits) {
        if (pattern.isLetter()) {
            fits.putIfAbsent(pattern.kind, type);
            return fits.get(pattern.kind).equals(type);
        }
        return pattern.kind.equals(type.kind) && (pattern.left == null
                || fit(pattern.left, type.left, fits) && fit(pattern.right, type.right, fits));
    }

    private void count(Def d) {
        d.tallies[0] = d.names.size();
        d.tallies[1] = letters(d).length();
        count(d, d.expr);
    }

    private void count(Def d, Expr e) {
        if (e.def != null) {
            d.tallies[2]++;
            for (int i = 0; i < e.def.names.size(); i++) {
                if (e.parts.get(i + 1).shortWay) {
                    d.tallies[5]++;
                } else if (e.def.types.get(i).hasLetter()) {
                    d.tallies[3]++;
                }
            }
            if (e.def.type.hasLetter() && !e.shortWay) {
                d.tallies[4]++;
            }
        }
        e.parts.stream().filter(p -> p.type != null).forEach(p -> count(d, p));
    }

    // ---- running ----

    record Double64(long bits) { }

    record Pair(Object first, Object second) { }

    record Box(Object inside) { }

    record Function(Expr fn, Def def, Map<String, Object> locals) { }

    record Cover(Object inner, Type type, Map<String, Type> fits, boolean boxing) { }

    int ending;
    int[] told = new int[8];
    Object result;
    private boolean boxes;
    private int limit;
    private int depth;
    private int locals;

    int run(int d, boolean withBoxes, int steps, long[] arguments) {
        boxes = withBoxes;
        limit = steps;
        told = new int[8];
        depth = 0;
        locals = 0;
        result = null;
        Def called = defs.get(d);
        List<Object> words = new ArrayList<>();
        for (int i = 0; i < arguments.length; i++) {
            words.add(called.types.get(i) == LONG ? (Object) arguments[i]
                    : new Double64(arguments[i]));
        }
        try {
            result = callDef(called, words);
            ending = 1;
        } catch (Stop stop) {
            ending = stop.code;
        }
        return ending;
    }

    int sort(long way) {
        Object found = find(way);
        if (found instanceof Long) {
            return 0;
        }
        if (found instanceof Double64) {
            return 1;
        }
        if (found instanceof Pair) {
            return 2;
        }
        return found instanceof Function || found instanceof Cover ? 3 : -1;
    }

    long word(long way) {
        Object found = find(way);
        if (found instanceof Double64 number) {
            return number.bits;
        }
        return found instanceof Long number ? number : 0;
    }

    private Object find(long way) {
        if (way < 1 || ending != 1) {
            return null;
        }
        if (way == 1) {
            return result;
        }
        if (find(way / 2) instanceof Pair pair) {
            return way % 2 == 0 ? pair.first : pair.second;
        }
        return null;
    }

    private void made(int what) {
        if (told[1] + told[3] + told[4] + told[5] == 4000) {
            throw new Stop(4, 0);
        }
        told[what]++;
    }

    private Object pair(Object first, Object second) {
        made(4);
        return new Pair(first, second);
    }

    private void claim(Def d) {
        locals += d.locals;
        if (locals > 60000) {
            throw new Stop(4, 0);
        }
    }

    private void deeper() {
        if (depth == 150) {
            throw new Stop(3, 0);
        }
    }

    private Object callDef(Def d, List<Object> arguments) {
        claim(d);
        Map<String, Object> scope = new HashMap<>();
        for (int i = 0; i < arguments.size(); i++) {
            scope.put(d.names.get(i), arguments.get(i));
        }
        return work(d.expr, d, scope);
    }

    private Object work(Expr e, Def d, Map<String, Object> scope) {
        deeper();
        if (told[0] == limit) {
            throw new Stop(2, 0);
        }
        told[0]++;
        depth++;
        told[6] = Math.max(told[6], depth);
        Object value = value(e, d, scope);
        depth--;
        return value;
    }

    private Object value(Expr e, Def d, Map<String, Object> scope) {
        switch (e.kind) {
            case "number":
                return e.word;
            case "bits":
                return new Double64(e.word);
            case "name":
                return e.def == null ? scope.get(e.name) : callDef(e.def, List.of());
            case "let":
                Map<String, Object> inner = new HashMap<>(scope);
                inner.put(e.name, work(e.parts.get(0), d, scope));
                return work(e.parts.get(1), d, inner);
            case "if":
                boolean yes = (Long) work(e.parts.get(0), d, scope) != 0;
                return work(e.parts.get(yes ? 1 : 2), d, scope);
            case "fn":
                made(5);
                return new Function(e, d, scope);
            case "call":
                return call(e, d, scope);
            case "fst":
                return ((Pair) work(e.parts.get(0), d, scope)).first;
            case "snd":
                return ((Pair) work(e.parts.get(0), d, scope)).second;
            default:
                Object left = work(e.parts.get(0), d, scope);
                Object right = work(e.parts.get(1), d, scope);
                return e.kind.equals(",") ? pair(left, right)
                        : (Object) number(e.kind, (Long) left, (Long) right);
        }
    }

    private static long number(String kind, long left, long right) {
        if (kind.equals("<")) {
            return left < right ? 1 : 0;
        }
        return kind.equals("+") ? left + right : left - right;
    }

    private Object call(Expr e, Def d, Map<String, Object> scope) {
        Object value;
        int next = 1;
        if (e.def == null) {
            value = work(e.parts.get(0), d, scope);
        } else {
            List<Object> arguments = new ArrayList<>();
            for (Type type : e.def.types) {
                Expr atom = e.parts.get(next++);
                Object argument = work(atom, d, scope);
                arguments.add(boxes && !atom.shortWay ? adapt(argument, type, e.fits, true)
                        : argument);
            }
            value = callDef(e.def, arguments);
            if (boxes && !e.shortWay) {
                value = adapt(value, e.def.type, e.fits, false);
            }
        }
        for (; next < e.parts.size(); next++) {
            value = apply(value, work(e.parts.get(next), d, scope));
        }
        return value;
    }

    private Object apply(Object function, Object argument) {
        if (function instanceof Function f) {
            claim(f.def);
            Map<String, Object> scope = new HashMap<>(f.locals);
            scope.put(f.fn.name, argument);
            return work(f.fn.parts.get(0), f.def, scope);
        }
        Cover cover = (Cover) function;
        deeper();
        depth++;
        told[6] = Math.max(told[6], depth);
        told[7]++;
        Object inner = either(argument, cover.type.left, cover.fits, !cover.boxing);
        Object value = apply(cover.inner, inner);
        value = either(value, cover.type.right, cover.fits, cover.boxing);
        depth--;
        return value;
    }

    private Object either(Object value, Type type, Map<String, Type> fits, boolean boxing) {
        return fits == null ? box(value, type, boxing) : adapt(value, type, fits, boxing);
    }

    private Object adapt(Object value, Type type, Map<String, Type> fits, boolean boxing) {
        if (!type.hasLetter()) {
            return value;
        }
        if (type.isLetter()) {
            return box(value, fits.get(type.kind), boxing);
        }
        if (type.kind.equals("*")) {
            Object first = adapt(((Pair) value).first, type.left, fits, boxing);
            return pair(first, adapt(((Pair) value).second, type.right, fits, boxing));
        }
        made(3);
        return new Cover(value, type, fits, boxing);
    }

    private Object box(Object value, Type type, boolean boxing) {
        if (type.isLetter()) {
            return value;
        }
        if (type.kind.equals("*")) {
            Object first = box(((Pair) value).first, type.left, boxing);
            return pair(first, box(((Pair) value).second, type.right, boxing));
        }
        if (type.kind.equals("->")) {
            made(3);
            return new Cover(value, type, null, boxing);
        }
        if (boxing) {
            made(1);
            return new Box(value);
        }
        told[2]++;
        return ((Box) value).inside;
    }
}
