import java.util.ArrayList;
import java.util.LinkedHashSet;
import java.util.List;
import java.util.Random;
import java.util.Set;

/**
 * Promises 4 and 5: FAULT 2, at the first TOKEN that can't stand there. The document's grammar
 * is read here by Earley's way, which knows after each TOKEN whether anything can follow.
 */
final class GrammarTest {
    private static final int TEXTS = 8000;
    // NAME, NUMBER, BITS and LETTER stand for any TOKEN of their kind.
    private static final String[] RULES = {
        "PROGRAM", "PROGRAM PROGRAM DEF",
        "DEF NAME PARAMETERS : TYPE = EXPR ;",
        "PARAMETERS", "PARAMETERS PARAMETERS PARAMETER", "PARAMETER ( NAME : TYPE )",
        "TYPE PART", "TYPE PART -> TYPE", "PART BASE", "PART BASE * PART",
        "BASE long", "BASE double", "BASE LETTER", "BASE ( TYPE )",
        "EXPR let NAME = EXPR in EXPR", "EXPR if EXPR then EXPR else EXPR",
        "EXPR fn ( NAME : TYPE ) -> EXPR", "EXPR SUM", "EXPR SUM < SUM",
        "SUM CALL", "SUM SUM + CALL", "SUM SUM - CALL",
        "CALL fst ATOM", "CALL snd ATOM", "CALL ATOMS", "ATOMS ATOM", "ATOMS ATOMS ATOM",
        "ATOM NUMBER", "ATOM BITS", "ATOM NAME", "ATOM ( EXPR )", "ATOM ( EXPR , EXPR )",
    };
    private static final String[] KINDS = {"NAME", "NUMBER", "BITS", "LETTER", "long", "double",
        "let", "in", "if", "then", "else", "fn", "fst", "snd", "(", ")", ":", "=", ";", "->", ",",
        "*", "+", "-", "<"};

    private record Item(int rule, int dot, int from) { }

    private final Check check = new Check();
    private final String[][] rules = new String[RULES.length][];
    private final Random random = new Random(1);
    private int well;

    public static void main(String[] args) {
        GrammarTest test = new GrammarTest();
        for (int i = 0; i < RULES.length; i++) {
            test.rules[i] = RULES[i].split(" ");
        }
        test.eachTokenBehindEachPrefix();
        int texts = args.length > 0 ? Integer.parseInt(args[0]) : TEXTS;
        for (int i = 0; i < texts; i++) {
            test.compare(test.spoilt(test.made()));
        }
        test.check.same("texts that are well", 1, test.well > 1000 ? 1 : 0);
        test.check.end();
    }

    /** Every kind of TOKEN, behind every beginning of texts that have all there is. */
    private void eachTokenBehindEachPrefix() {
        String[] texts = {
            "NAME ( NAME : long * LETTER -> ( double ) ) : ( long -> LETTER * double ) = NUMBER ;",
            "NAME : long = let NAME = BITS in if NAME + NUMBER < NAME - NAME then NUMBER else NAME ;",
            "NAME : LETTER = fn ( NAME : LETTER ) -> NAME ( NAME ) ( NAME , NUMBER ) NUMBER ; NAME : long",
            "NAME : long = fst ( NAME , snd NAME ) - fst NAME < ( fn ( NAME : long ) -> NAME ) NAME ;",
        };
        for (String text : texts) {
            List<String> tokens = List.of(text.split(" "));
            for (int size = 0; size <= tokens.size(); size++) {
                compare(new ArrayList<>(tokens.subList(0, size)));
                for (String kind : KINDS) {
                    List<String> more = new ArrayList<>(tokens.subList(0, size));
                    more.add(kind);
                    compare(more);
                }
            }
        }
    }

    private void compare(List<String> tokens) {
        StringBuilder text = new StringBuilder();
        int[] places = new int[tokens.size() + 1];
        for (int i = 0; i < tokens.size(); i++) {
            places[i] = text.length();
            text.append(tokenOf(tokens.get(i))).append(random.nextBoolean() ? " " : "\n");
        }
        places[tokens.size()] = text.length();
        if (text.length() > 3000) {
            return;
        }
        int bad = firstThatCannotStand(tokens);
        BoxedCore core = Check.fed(text.toString());
        int answer = core.compile();
        if (bad < 0) {
            well++;
            check.same("can stand: " + text, 1, answer == -2 ? 0 : 1);
        } else {
            check.same("compile " + text, -2, answer);
            check.same("place of " + text, places[bad], core.place());
        }
    }

    private String tokenOf(String kind) {
        switch (kind) {
            case "NAME":
                return "" + "xyz".charAt(random.nextInt(3));
            case "NUMBER":
                return "" + random.nextInt(20);
            case "BITS":
                return "#" + random.nextInt(20);
            case "LETTER":
                return "'" + "abcd".charAt(random.nextInt(4));
            default:
                return kind;
        }
    }

    /** The TOKEN's number, or that of the end; -1 if all can stand. */
    private int firstThatCannotStand(List<String> tokens) {
        List<Set<Item>> sets = new ArrayList<>();
        Set<Item> now = new LinkedHashSet<>();
        begin("PROGRAM", 0, now);
        sets.add(now);
        close(sets, 0);
        for (int at = 0; at < tokens.size(); at++) {
            Set<Item> next = new LinkedHashSet<>();
            for (Item item : sets.get(at)) {
                if (tokens.get(at).equals(behindDot(item))) {
                    next.add(new Item(item.rule, item.dot + 1, item.from));
                }
            }
            if (next.isEmpty()) {
                return at;
            }
            sets.add(next);
            close(sets, at + 1);
        }
        for (Item item : sets.get(tokens.size())) {
            if (rules[item.rule][0].equals("PROGRAM") && item.from == 0 && behindDot(item) == null) {
                return -1;
            }
        }
        return tokens.size();
    }

    private String behindDot(Item item) {
        return item.dot < rules[item.rule].length ? rules[item.rule][item.dot] : null;
    }

    private void begin(String name, int at, Set<Item> set) {
        for (int i = 0; i < rules.length; i++) {
            if (rules[i][0].equals(name)) {
                set.add(new Item(i, 1, at));
            }
        }
    }

    private void close(List<Set<Item>> sets, int at) {
        for (int before = -1; before != sets.get(at).size();) {
            before = sets.get(at).size();
            for (Item item : List.copyOf(sets.get(at))) {
                String behind = behindDot(item);
                if (behind != null) {
                    begin(behind, at, sets.get(at));
                    continue;
                }
                for (Item waiting : List.copyOf(sets.get(item.from))) {
                    if (rules[item.rule][0].equals(behindDot(waiting))) {
                        sets.get(at).add(new Item(waiting.rule, waiting.dot + 1, waiting.from));
                    }
                }
            }
        }
    }

    private List<String> made() {
        List<String> tokens = new ArrayList<>();
        for (int defs = random.nextInt(3); defs >= 0; defs--) {
            make("DEF", 5, tokens);
        }
        return tokens;
    }

    /** The shorter rules the deeper it is, so that it ends, and no limit is met. */
    private void make(String name, int depth, List<String> tokens) {
        if (List.of(KINDS).contains(name)) {
            tokens.add(name);
            return;
        }
        List<String[]> choices = new ArrayList<>();
        for (String[] rule : rules) {
            if (rule[0].equals(name) && (depth > 0 || rule.length <= 2)) {
                choices.add(rule);
            }
        }
        String[] rule = choices.get(random.nextInt(choices.size()));
        for (int i = 1; i < rule.length; i++) {
            make(rule[i], depth - (name.equals("EXPR") || name.equals("TYPE") ? 1 : 0)
                    - (rule[i].equals(name) ? 1 : 0), tokens);
        }
    }

    private List<String> spoilt(List<String> tokens) {
        for (int times = random.nextInt(3); times > 0 && !tokens.isEmpty(); times--) {
            int at = random.nextInt(tokens.size());
            switch (random.nextInt(4)) {
                case 0:
                    tokens.remove(at);
                    break;
                case 1:
                    tokens.set(at, KINDS[random.nextInt(KINDS.length)]);
                    break;
                case 2:
                    tokens.add(at, KINDS[random.nextInt(KINDS.length)]);
                    break;
                default:
                    tokens.subList(at, tokens.size()).clear();
            }
        }
        return tokens;
    }
}
