import java.util.ArrayList;
import java.util.List;
import java.util.regex.Matcher;
import java.util.regex.Pattern;

/**
 * Long runs of calls and all short texts, each answer compared with that of a second reading of the
 * document, which works with strings, patterns and recursion. The runs are the same each time.
 */
public final class ModelTest {
    private static final String ALPHABET = "abcde01234=+*();{} ";
    private static final int RUNS = 4000;
    private static final int CALLS = 512;
    private static final int QUESTIONS = 17;
    private static final int BAD = -1;
    private static final int FULL = -2;
    private static final int NONE = -3;

    private static long seed = 20261115L;

    public static void main(String[] args) {
        for (int run = 0; run < RUNS; run++) {
            List<String> calls = new ArrayList<>();
            if (!runIsRight(calls, run)) {
                System.out.println("run " + run + ":");
                calls.forEach(call -> System.out.println("  " + call));
                System.exit(1);
            }
        }
        System.out.println(RUNS + " runs are as due");
        shortTexts(ALPHABET, 3);
        shortTexts("a=1;{}", 6);
        shortTexts("1=+*();", 6);
    }

    private static void shortTexts(String alphabet, int most) {
        List<String> texts = new ArrayList<>(List.of(""));
        for (int k = 0; k < texts.size(); k++) {
            List<String> calls = new ArrayList<>();
            if (!textIsRight(texts.get(k), calls)) {
                System.out.println("text " + texts.get(k) + ": " + calls.get(calls.size() - 1));
                System.exit(1);
            }
            for (int c = 0; c < alphabet.length() && texts.get(k).length() < most; c++) {
                texts.add(texts.get(k) + alphabet.charAt(c));
            }
        }
        System.out.println(texts.size() + " short texts are as due");
    }

    private static boolean textIsRight(String text, List<String> calls) {
        EditedText x = new EditedText();
        Model m = new Model();
        for (int p = 0; p < text.length(); p++) {
            x.insert(p, ALPHABET.indexOf(text.charAt(p)));
        }
        m.change(text);
        boolean right = true;
        for (int at = -1; at <= text.length() && right; at++) {
            for (int question = 0; question < QUESTIONS && right; question++) {
                right = answerIsRight(x, m, calls, question, at, at, at);
            }
        }
        return right;
    }

    private static int random(int bound) {
        seed = seed * 6364136223846793005L + 1442695040888963407L;
        return (int) ((seed >>> 33) % bound);
    }

    private static boolean runIsRight(List<String> calls, int run) {
        EditedText x = new EditedText();
        Model m = new Model();
        String flavour = new String[] {ALPHABET, "ab1=+;{}", "ab0=;{} ", "a=(1)+*;", "ab12 =;"}[run % 5];
        int editing = 10 + random(60);
        for (int k = 0; k < CALLS; k++) {
            boolean right = random(100) < editing ? editIsRight(x, m, calls, flavour) : answerIsRight(x, m, calls);
            if (!right) {
                return false;
            }
        }
        return true;
    }

    private static boolean same(List<String> calls, String call, long got, long want) {
        calls.add(call + " answered " + got + (got == want ? "" : ", due is " + want));
        return got == want;
    }

    private static int near(int bound) {
        int choice = random(40);
        if (choice == 0) {
            return -1 - random(4);
        }
        if (choice == 1) {
            return new int[] {Integer.MIN_VALUE, Integer.MAX_VALUE, 79, 80, 81, 1 << 30}[random(6)];
        }
        return random(bound + 2);
    }

    private static int someCharacter(String flavour) {
        return random(40) == 0 ? random(24) - 3 : ALPHABET.indexOf(flavour.charAt(random(flavour.length())));
    }

    private static boolean editIsRight(EditedText x, Model m, List<String> calls, String flavour) {
        int choice = random(100);
        if (choice < 30) {
            return pieceIsRight(x, m, calls);
        }
        if (choice < 55) {
            int p = near(m.text.length());
            int c = someCharacter(flavour);
            return same(calls, "insert(" + p + ", " + c + ")", x.insert(p, c), m.insert(p, c));
        }
        if (choice < 70) {
            int[] c = new int[4];
            for (int k = 0; k < 4; k++) {
                c[k] = random(4) == 0 ? -1 : someCharacter(flavour);
            }
            return appendIsRight(x, m, calls, c);
        }
        if (choice < 82) {
            int p = near(m.text.length());
            int n = random(30) == 0 ? near(m.text.length()) : random(3);
            return same(calls, "remove(" + p + ", " + n + ")", x.remove(p, n), m.remove(p, n));
        }
        if (choice < 98) {
            int i = near(m.items.size());
            int c = random(20) == 0 ? random(10) - 2 : random(5);
            return same(calls, "rename(" + i + ", " + c + ")", x.rename(i, c), m.rename(i, c));
        }
        if (random(3) == 0) {
            x.clear();
            m.change("");
            calls.add("clear()");
        }
        return true;
    }

    private static boolean appendIsRight(EditedText x, Model m, List<String> calls, int[] c) {
        String call = "append(" + c[0] + ", " + c[1] + ", " + c[2] + ", " + c[3] + ")";
        return same(calls, call, x.append(c[0], c[1], c[2], c[3]), m.append(c));
    }

    /** Whole pieces of the language, so that right items are as common as wrong ones. */
    private static boolean pieceIsRight(EditedText x, Model m, List<String> calls) {
        String[] pieces = {"a=1;", "b=a;", "a=a+", "{", "}", "a;", "a1=2", "(a)*", "a+b;", "==1;", "ab=a", ";", "ab;",
            "a==b", "(1==", "a)+1", "4444", "444;", "{b;}", "{a=2", ";{a;", "b=2;"};
        String piece = pieces[random(pieces.length)];
        int[] c = {-1, -1, -1, -1};
        for (int k = 0; k < piece.length(); k++) {
            c[k] = ALPHABET.indexOf(piece.charAt(k));
        }
        return appendIsRight(x, m, calls, c);
    }

    private static boolean answerIsRight(EditedText x, Model m, List<String> calls) {
        int p = near(m.text.length());
        int t = near(m.tokens.size());
        int i = near(m.items.size());
        return answerIsRight(x, m, calls, random(QUESTIONS), p, t, i);
    }

    private static boolean answerIsRight(EditedText x, Model m, List<String> calls, int question, int p, int t, int i) {
        switch (question) {
            case 0: return same(calls, "length()", x.length(), m.text.length());
            case 1: return same(calls, "character(" + p + ")", x.character(p), m.character(p));
            case 2: return same(calls, "tokens()", x.tokens(), m.tokens.size());
            case 3: return same(calls, "kind(" + t + ")", x.kind(t), m.isToken(t) ? m.tokens.get(t).kind : NONE);
            case 4: return same(calls, "start(" + t + ")", x.start(t), m.isToken(t) ? m.tokens.get(t).start : NONE);
            case 5: return same(calls, "tokenAt(" + p + ")", x.tokenAt(p), m.tokenAt(p));
            case 6: return same(calls, "items()", x.items(), m.items.size());
            case 7: return same(calls, "sort(" + i + ")", x.sort(i), m.isItem(i) ? m.items.get(i).sort : NONE);
            case 8: return same(calls, "itemOf(" + t + ")", x.itemOf(t), m.isToken(t) ? m.tokens.get(t).item : NONE);
            case 9: return same(calls, "depth(" + i + ")", x.depth(i), m.isItem(i) ? m.items.get(i).path.size() : NONE);
            case 10: return same(calls, "known(" + i + ")", x.known(i) ? 1 : 0, m.value(i) == null ? 0 : 1);
            case 11: return same(calls, "value(" + i + ")", x.value(i), m.value(i) == null ? 0 : m.value(i));
            case 12: return same(calls, "meaning(" + t + ")", x.meaning(t), m.meaning(t));
            case 13: return same(calls, "uses(" + i + ")", x.uses(i), m.uses(i));
            case 14: return same(calls, "loose()", x.loose(), m.loose);
            case 15: return same(calls, "wrong()", x.wrong(), m.items.stream().filter(item -> item.sort == 0).count());
            default: return same(calls, "digest()", x.digest(), m.digest());
        }
    }

    private static final class Token {
        String word;
        int kind;
        int start;
        int item = NONE;
        int means = NONE;
    }

    private static final class Item {
        List<Token> words = new ArrayList<>();
        List<Integer> path;
        int sort;
        Integer value;

        List<Token> expression() {
            return sort == 2 ? words.subList(2, words.size()) : words;
        }
    }

    private static final class Model {
        private static final Pattern TOKEN = Pattern.compile("[a-e][a-e0-4]*|[0-4]+|==|[=+*();{}]");
        private static final String[] SIGNS = {"=", "==", "+", "*", "(", ")", ";", "{", "}"};

        String text = "";
        List<Token> tokens = new ArrayList<>();
        List<Item> items = new ArrayList<>();
        int loose;

        int insert(int p, int c) {
            if (c < 0 || c > 18 || p < 0 || p > text.length()) {
                return BAD;
            }
            if (text.length() == 80) {
                return FULL;
            }
            return change(text.substring(0, p) + ALPHABET.charAt(c) + text.substring(p));
        }

        int append(int[] characters) {
            String more = "";
            for (int c : characters) {
                if (c < -1 || c > 18) {
                    return BAD;
                }
                more += c == -1 ? "" : ALPHABET.charAt(c);
            }
            return text.length() + more.length() > 80 ? FULL : change(text + more);
        }

        int remove(int p, int n) {
            if (p < 0 || p > text.length() || n < 0 || (long) p + n > text.length()) {
                return BAD;
            }
            return change(text.substring(0, p) + text.substring(p + n));
        }

        int rename(int i, int c) {
            if (c < 0 || c > 4) {
                return BAD;
            }
            if (!isItem(i) || items.get(i).sort != 2) {
                return NONE;
            }
            StringBuilder changed = new StringBuilder(text);
            int count = 0;
            for (int t = tokens.size() - 1; t >= 0; t--) {
                Token token = tokens.get(t);
                if (token.means == i || token == items.get(i).words.get(0)) {
                    changed.replace(token.start, token.start + token.word.length(), "" + ALPHABET.charAt(c));
                    count++;
                }
            }
            change(changed.toString());
            return count;
        }

        int change(String changed) {
            text = changed;
            readTokens();
            readItems();
            for (int i = 0; i < items.size(); i++) {
                Item item = items.get(i);
                if (item.sort != 0) {
                    findMeanings(item, i);
                    item.value = new Reader(item.expression()).value(this);
                }
            }
            return text.length();
        }

        void readTokens() {
            tokens = new ArrayList<>();
            Matcher matcher = TOKEN.matcher(text);
            while (matcher.find()) {
                Token token = new Token();
                token.word = matcher.group();
                token.start = matcher.start();
                char c = token.word.charAt(0);
                token.kind = Character.isLetter(c) ? 0 : Character.isDigit(c) ? 1
                    : 2 + List.of(SIGNS).indexOf(token.word);
                tokens.add(token);
            }
        }

        void readItems() {
            items = new ArrayList<>();
            loose = 0;
            List<Integer> path = new ArrayList<>();
            Item item = new Item();
            for (int t = 0; t < tokens.size(); t++) {
                Token token = tokens.get(t);
                if (!";{}".contains(token.word)) {
                    token.item = items.size();
                    item.words.add(token);
                    continue;
                }
                finish(item, path, token.word);
                item = new Item();
                if (token.word.equals("{")) {
                    path.add(t);
                } else if (token.word.equals("}") && path.isEmpty()) {
                    loose++;
                } else if (token.word.equals("}")) {
                    path.remove(path.size() - 1);
                }
            }
            finish(item, path, "");
            loose += path.size();
        }

        void finish(Item item, List<Integer> path, String end) {
            if (item.words.isEmpty()) {
                return;
            }
            item.path = List.copyOf(path);
            items.add(item);
            boolean defines = item.words.size() > 2 && item.words.get(0).kind == 0 && item.words.get(1).kind == 2;
            int sort = defines ? 2 : 1;
            List<Token> words = item.words.subList(defines ? 2 : 0, item.words.size());
            item.sort = end.equals(";") && new Reader(words).isRight() ? sort : 0;
        }

        void findMeanings(Item item, int i) {
            for (Token token : item.expression()) {
                for (int d = 0; d < i && token.kind == 0; d++) {
                    Item other = items.get(d);
                    if (other.sort == 2 && other.words.get(0).word.equals(token.word)
                            && item.path.containsAll(other.path)) {
                        token.means = d;
                    }
                }
            }
        }

        boolean isToken(int t) {
            return t >= 0 && t < tokens.size();
        }

        boolean isItem(int i) {
            return i >= 0 && i < items.size();
        }

        int character(int p) {
            return p >= 0 && p < text.length() ? ALPHABET.indexOf(text.charAt(p)) : NONE;
        }

        int tokenAt(int p) {
            for (int t = 0; t < tokens.size(); t++) {
                Token token = tokens.get(t);
                if (p >= token.start && p < token.start + token.word.length()) {
                    return t;
                }
            }
            return NONE;
        }

        Integer value(int i) {
            return isItem(i) ? items.get(i).value : null;
        }

        int meaning(int t) {
            return isToken(t) ? tokens.get(t).means : NONE;
        }

        int uses(int i) {
            if (!isItem(i) || items.get(i).sort != 2) {
                return NONE;
            }
            return (int) tokens.stream().filter(token -> token.means == i).count();
        }

        int digest() {
            long sum = 0;
            for (int i = 0; i < items.size(); i++) {
                sum += value(i) == null ? 0 : (i + 1L) * value(i);
            }
            return (int) sum;
        }
    }

    /** The grammar of the document, a method for each of its lines; null is an unknown value. */
    private static final class Reader {
        private final List<Token> words;
        private int at;
        private boolean right = true;
        private Model model;

        Reader(List<Token> words) {
            this.words = words;
        }

        boolean isRight() {
            expression();
            return right && at == words.size();
        }

        Integer value(Model from) {
            model = from;
            return expression();
        }

        private boolean passes(int kind) {
            boolean passed = right && at < words.size() && words.get(at).kind == kind;
            at += passed ? 1 : 0;
            return passed;
        }

        private Integer expression() {
            Integer left = sum();
            if (!passes(3)) {
                return left;
            }
            Integer next = sum();
            return left == null || next == null ? null : Integer.valueOf(left.equals(next) ? 1 : 0);
        }

        private Integer sum() {
            Integer total = term();
            while (passes(4)) {
                Integer next = term();
                total = total == null || next == null ? null : Integer.valueOf(total + next);
            }
            return total;
        }

        private Integer term() {
            Integer total = factor();
            while (passes(5)) {
                Integer next = factor();
                total = total == null || next == null ? null : Integer.valueOf(total * next);
            }
            return total;
        }

        private Integer factor() {
            if (passes(0)) {
                return model == null ? null : model.value(words.get(at - 1).means);
            }
            if (passes(1)) {
                return new java.math.BigInteger(words.get(at - 1).word).intValue();
            }
            if (passes(6)) {
                Integer inner = expression();
                right = passes(7) && right;
                return inner;
            }
            right = false;
            return null;
        }
    }
}
