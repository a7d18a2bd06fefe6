/** Each promise of the document with ordinary inputs, the edges that it names, and wrong inputs. */
public final class PromiseTest {
    private static final String ALPHABET = "abcde01234=+*();{} ";
    private static final int BAD = EditedText.BAD_ARG;
    private static final int FULL = EditedText.FULL;
    private static final int NONE = EditedText.NONE;
    private static final int[] FAR = {Integer.MIN_VALUE, -1000, -4, -3, -2, -1, 81, 1000, Integer.MAX_VALUE};

    private static String section = "";
    private static int failures = 0;

    public static void main(String[] args) {
        newObject();
        insert();
        append();
        remove();
        rename();
        renameKeepsTheRest();
        clear();
        lengthAndCharacter();
        tokensAndKinds();
        starts();
        tokenAt();
        items();
        sorts();
        itemOf();
        depth();
        known();
        values();
        wrappingValues();
        meanings();
        meaningsInBlocks();
        uses();
        loose();
        wrong();
        digest();
        limits();
        farArguments();
        System.out.println(failures == 0 ? "all promises hold" : failures + " answers are not as due");
        if (failures != 0) {
            System.exit(1);
        }
    }

    private static void begin(String name) {
        section = name;
    }

    private static void due(String what, long got, long want) {
        if (got != want) {
            failures++;
            System.out.println(section + ": " + what + " answered " + got + ", due is " + want);
        }
    }

    private static void due(String what, boolean got, boolean want) {
        due(what, got ? 1 : 0, want ? 1 : 0);
    }

    private static void dueText(String what, EditedText x, String want) {
        String got = textOf(x);
        if (!got.equals(want)) {
            failures++;
            System.out.println(section + ": " + what + " left \"" + got + "\", due is \"" + want + "\"");
        }
    }

    private static int code(char c) {
        return ALPHABET.indexOf(c);
    }

    private static EditedText of(String text) {
        EditedText x = new EditedText();
        for (int p = 0; p < text.length(); p++) {
            due("appending to " + text, x.append(code(text.charAt(p)), -1, -1, -1), p + 1);
        }
        return x;
    }

    private static String textOf(EditedText x) {
        StringBuilder text = new StringBuilder();
        for (int p = 0; p < x.length(); p++) {
            int c = x.character(p);
            text.append(c >= 0 && c < ALPHABET.length() ? ALPHABET.charAt(c) : '?');
        }
        return text.toString();
    }

    private static String many(String part, int times) {
        return part.repeat(times);
    }

    private static void newObject() {
        begin("promise 1");
        EditedText x = new EditedText();
        due("length()", x.length(), 0);
        due("tokens()", x.tokens(), 0);
        due("items()", x.items(), 0);
        due("loose()", x.loose(), 0);
        due("wrong()", x.wrong(), 0);
        due("digest()", x.digest(), 0);
        due("character(0)", x.character(0), NONE);
        EditedText other = of("a;");
        due("length() beside another object", x.length(), 0);
        due("length() of the other object", other.length(), 2);
        due("BAD_ARG", BAD, -1);
        due("FULL", FULL, -2);
        due("NONE", NONE, -3);
    }

    private static void insert() {
        begin("promise 2");
        EditedText x = new EditedText();
        due("insert(0, 18)", x.insert(0, 18), 1);
        due("insert(1, 0)", x.insert(1, 0), 2);
        due("insert(0, 17)", x.insert(0, 17), 3);
        due("insert(2, 5)", x.insert(2, 5), 4);
        dueText("insert", x, "} 0a");
        due("insert(5, 0)", x.insert(5, 0), BAD);
        due("insert(-1, 0)", x.insert(-1, 0), BAD);
        due("insert(0, 19)", x.insert(0, 19), BAD);
        due("insert(0, -1)", x.insert(0, -1), BAD);
        dueText("a refused insert", x, "} 0a");
        for (int c = 0; c <= 18; c++) {
            EditedText y = of("a");
            due("insert(0, " + c + ")", y.insert(0, c), 2);
            due("character(0)", y.character(0), c);
            due("character(1)", y.character(1), 0);
        }
        x = of(many("a;", 40));
        due("insert(0, 0) when full", x.insert(0, 0), FULL);
        due("insert(80, 0) when full", x.insert(80, 0), FULL);
        due("insert(81, 0) when full", x.insert(81, 0), BAD);
        due("insert(0, 19) when full", x.insert(0, 19), BAD);
        dueText("a full insert", x, many("a;", 40));
    }

    private static void append() {
        begin("promise 3");
        EditedText x = new EditedText();
        due("append(0, 5, 10, 18)", x.append(0, 5, 10, 18), 4);
        due("append(-1, 4, -1, 9)", x.append(-1, 4, -1, 9), 6);
        due("append(17, -1, -1, -1)", x.append(17, -1, -1, -1), 7);
        due("append(-1, -1, -1, -1)", x.append(-1, -1, -1, -1), 7);
        dueText("append", x, "a0= e4}");
        due("append(19, 0, 0, 0)", x.append(19, 0, 0, 0), BAD);
        due("append(0, 19, 0, 0)", x.append(0, 19, 0, 0), BAD);
        due("append(0, 0, 19, 0)", x.append(0, 0, 19, 0), BAD);
        due("append(0, 0, 0, 19)", x.append(0, 0, 0, 19), BAD);
        due("append(-2, 0, 0, 0)", x.append(-2, 0, 0, 0), BAD);
        due("append(0, -2, 0, 0)", x.append(0, -2, 0, 0), BAD);
        due("append(0, 0, -2, 0)", x.append(0, 0, -2, 0), BAD);
        due("append(0, 0, 0, -2)", x.append(0, 0, 0, -2), BAD);
        dueText("a refused append", x, "a0= e4}");
    }

    private static void remove() {
        begin("promise 4");
        EditedText x = of("abcde");
        due("remove(1, 2)", x.remove(1, 2), 3);
        dueText("remove(1, 2)", x, "ade");
        due("remove(3, 0)", x.remove(3, 0), 3);
        due("remove(0, 0)", x.remove(0, 0), 3);
        due("remove(3, 1)", x.remove(3, 1), BAD);
        due("remove(4, 0)", x.remove(4, 0), BAD);
        due("remove(-1, 1)", x.remove(-1, 1), BAD);
        due("remove(0, -1)", x.remove(0, -1), BAD);
        due("remove(0, 4)", x.remove(0, 4), BAD);
        due("remove(1, most)", x.remove(1, Integer.MAX_VALUE), BAD);
        due("remove(most, 1)", x.remove(Integer.MAX_VALUE, 1), BAD);
        due("remove(1, least)", x.remove(1, Integer.MIN_VALUE), BAD);
        dueText("a refused remove", x, "ade");
        due("remove(2, 1)", x.remove(2, 1), 2);
        dueText("remove(2, 1)", x, "ad");
        due("remove(0, 2)", x.remove(0, 2), 0);
        due("tokens()", x.tokens(), 0);
    }

    private static void rename() {
        begin("promise 5");
        EditedText x = of("ab=1;ab*ab;c=ab;");
        due("rename(0, 4)", x.rename(0, 4), 4);
        dueText("rename(0, 4)", x, "e=1;e*e;c=e;");
        due("uses(0)", x.uses(0), 3);
        due("rename(2, 3)", x.rename(2, 3), 1);
        dueText("rename(2, 3)", x, "e=1;e*e;d=e;");
        due("rename(1, 0) of an expression", x.rename(1, 0), NONE);
        due("rename(3, 0) of no item", x.rename(3, 0), NONE);
        due("rename(-1, 0)", x.rename(-1, 0), NONE);
        due("rename(0, 5)", x.rename(0, 5), BAD);
        due("rename(0, -1)", x.rename(0, -1), BAD);
        due("rename(9, 5)", x.rename(9, 5), BAD);
        due("rename(1, 5)", x.rename(1, 5), BAD);
        dueText("a refused rename", x, "e=1;e*e;d=e;");
        due("rename(0, 4) to its own name", x.rename(0, 4), 4);
        dueText("rename(0, 4) to its own name", x, "e=1;e*e;d=e;");
        x = of("a=;a");
        due("rename(0, 1) of a wrong item", x.rename(0, 1), NONE);
        dueText("rename of a wrong item", x, "a=;a");
    }

    private static void renameKeepsTheRest() {
        EditedText x = of("a2b=1; a2b = a2b+(a2b); a2b; a2; a2b");
        due("rename(0, 2)", x.rename(0, 2), 3);
        dueText("rename(0, 2)", x, "c=1; a2b = c+(c); a2b; a2; a2b");
        due("length()", x.length(), 30);
        x = of("a=1;{a=2;a;}a;b=3;b;");
        due("rename(1, 1)", x.rename(1, 1), 2);
        dueText("rename(1, 1)", x, "a=1;{b=2;b;}a;b=3;b;");
        due("rename(0, 1)", x.rename(0, 1), 2);
        dueText("rename(0, 1)", x, "b=1;{b=2;b;}b;b=3;b;");
        x = of("a=1;b=2;a+b;");
        due("rename(0, 1) to a name in use", x.rename(0, 1), 2);
        dueText("rename(0, 1) to a name in use", x, "b=1;b=2;b+b;");
        due("uses(0) after that", x.uses(0), 0);
        due("uses(1) after that", x.uses(1), 2);
        due("value(2) after that", x.value(2), 4);
    }

    private static void clear() {
        begin("promise 6");
        EditedText x = of("}a=1;{a;");
        x.clear();
        due("length()", x.length(), 0);
        due("tokens()", x.tokens(), 0);
        due("items()", x.items(), 0);
        due("loose()", x.loose(), 0);
        due("digest()", x.digest(), 0);
        due("tokenAt(0)", x.tokenAt(0), NONE);
        due("character(0)", x.character(0), NONE);
        due("append(1, 15, -1, -1)", x.append(1, 15, -1, -1), 2);
        due("known(0)", x.known(0), false);
        x = of(many("{", 80));
        x.clear();
        due("insert(0, 3) after a full text", x.insert(0, 3), 1);
        x.clear();
        x.clear();
        due("length() when cleared twice", x.length(), 0);
    }

    private static void lengthAndCharacter() {
        begin("promise 7");
        EditedText x = of("  a ;");
        due("length()", x.length(), 5);
        due("length() when full", of(many(" ", 80)).length(), 80);
        begin("promise 8");
        due("character(0)", x.character(0), 18);
        due("character(2)", x.character(2), 0);
        due("character(4)", x.character(4), 15);
        due("character(5)", x.character(5), NONE);
        due("character(-1)", x.character(-1), NONE);
        x = of(ALPHABET);
        for (int p = 0; p < ALPHABET.length(); p++) {
            due("character(" + p + ")", x.character(p), p);
        }
        x.remove(3, 16);
        due("character(3) once removed", x.character(3), NONE);
    }

    private static void dueKinds(String text, int... kinds) {
        EditedText x = of(text);
        begin("promise 9");
        due("tokens() of " + text, x.tokens(), kinds.length);
        begin("promise 10");
        for (int t = 0; t < kinds.length; t++) {
            due("kind(" + t + ") of " + text, x.kind(t), kinds[t]);
        }
        due("kind(-1) of " + text, x.kind(-1), NONE);
        due("kind behind the last of " + text, x.kind(kinds.length), NONE);
    }

    private static void tokensAndKinds() {
        dueKinds("");
        dueKinds("   ");
        dueKinds("a", 0);
        dueKinds("ab3c4", 0);
        dueKinds("ab 3c", 0, 1, 0);
        dueKinds("3ab", 1, 0);
        dueKinds("0123", 1);
        dueKinds("01 23", 1, 1);
        dueKinds("=", 2);
        dueKinds("==", 3);
        dueKinds("===", 3, 2);
        dueKinds("====", 3, 3);
        dueKinds("= =", 2, 2);
        dueKinds("= ==", 2, 3);
        dueKinds("a=4", 0, 2, 1);
        dueKinds("4==e", 1, 3, 0);
        dueKinds("++", 4, 4);
        dueKinds("+*();{}", 4, 5, 6, 7, 8, 9, 10);
        dueKinds(many("+", 80), filled(80, 4));
        dueKinds(many("=", 79), withLast(filled(40, 3), 2));
    }

    private static int[] filled(int length, int kind) {
        int[] kinds = new int[length];
        java.util.Arrays.fill(kinds, kind);
        return kinds;
    }

    private static int[] withLast(int[] kinds, int last) {
        kinds[kinds.length - 1] = last;
        return kinds;
    }

    private static void starts() {
        begin("promise 11");
        EditedText x = of(" ab1 ==(  23");
        due("start(0)", x.start(0), 1);
        due("start(1)", x.start(1), 5);
        due("start(2)", x.start(2), 7);
        due("start(3)", x.start(3), 10);
        due("start(4)", x.start(4), NONE);
        due("start(-1)", x.start(-1), NONE);
        x.insert(2, 18);
        due("start(1) once a space split the name", x.start(1), 3);
    }

    private static void tokenAt() {
        begin("promise 12");
        EditedText x = of(" ab1==(  23");
        int[] due = {NONE, 0, 0, 0, 1, 1, 2, NONE, NONE, 3, 3, NONE};
        for (int p = 0; p < due.length; p++) {
            due("tokenAt(" + p + ")", x.tokenAt(p), due[p]);
        }
        due("tokenAt(-1)", x.tokenAt(-1), NONE);
        x.remove(0, 9);
        due("tokenAt(1)", x.tokenAt(1), 0);
        due("tokenAt(2) once removed", x.tokenAt(2), NONE);
    }

    private static void items() {
        begin("promise 13");
        due("items() of nothing", of("").items(), 0);
        due("items() of spaces", of("  ").items(), 0);
        due("items() of ends", of(";;{};}").items(), 0);
        due("items() of ; ;", of("; ;").items(), 0);
        due("items() of a", of("a").items(), 1);
        due("items() of a;", of("a;").items(), 1);
        due("items() of a;b", of("a;b").items(), 2);
        due("items() of a{b}c;d", of("a{b}c;d").items(), 4);
        due("items() of a b=;", of("a b=;").items(), 1);
        due("items() of 40", of(many("a;", 40)).items(), 40);
        due("items() of 80 names", of(many("a", 80)).items(), 1);
    }

    private static void dueSort(String text, int want) {
        due("sort(0) of " + text, of(text).sort(0), want);
    }

    private static void sorts() {
        begin("promise 14");
        for (String right : new String[] {"a", "a1", "12", "a+1", "a*b+c", "(a)", "((a))", "a==b", "(a==b)==c",
                "a==(b==c)", "a+b==c*d", "(a+b)*(c)", " a + b ", "(a==b)+(c==d)", "a==b+(c==d)"}) {
            dueSort(right + ";", 1);
            dueSort("c=" + right + ";", 2);
            dueSort("c1 = " + right + " ;", 2);
            dueSort(right, 0);
            dueSort(right + "{", 0);
            dueSort(right + "}", 0);
            dueSort("c=" + right, 0);
            dueSort("c=" + right + "{", 0);
            dueSort("c=" + right + "}", 0);
            dueSort("1=" + right + ";", 0);
            dueSort("c d=" + right + ";", 0);
            dueSort("c=d=" + right + ";", 0);
            dueSort("(c)=" + right + ";", 0);
            dueSort("=" + right + ";", 0);
            dueSort("c= =" + right + ";", 0);
        }
        for (String bad : new String[] {"a b", "1a", "1 2", "+", "+a", "a+", "a++b", "a*", "*a", "a+*b", "()", "(", ")",
                "(a", "a)", "(a))", "((a)", ")a(", "a(b)", "(a)b", "(a)(b)", "2(a)", "a==", "==a", "==", "a==b==c",
                "a===b", "a= =b", "(a==b==c)", "a==b+c==d", "(a=b)", "a+b=c", "(a+)", "(+a)", "a==b)", "a+(b==c",
                "a)==b", "a)+(b", "a)+b("}) {
            dueSort(bad + ";", 0);
            dueSort("c=" + bad + ";", 0);
        }
        dueSort("c=;", 0);
        dueSort("=;", 0);
        due("sort(1) of two comparisons", of("1==1;2==2;").sort(1), 1);
        due("sort(1) behind an open bracket", of("(1==;2==2;").sort(1), 1);
        EditedText x = of("a=1;b;c");
        due("sort(0)", x.sort(0), 2);
        due("sort(1)", x.sort(1), 1);
        due("sort(2)", x.sort(2), 0);
        due("sort(3)", x.sort(3), NONE);
        due("sort(-1)", x.sort(-1), NONE);
        dueSort(many("(", 39) + "a" + many(")", 39) + ";", 1);
        dueSort(many("(", 80), 0);
    }

    private static void itemOf() {
        begin("promise 15");
        EditedText x = of(";a=1;{ b c}}; d");
        int[] due = {NONE, 0, 0, 0, NONE, NONE, 1, 1, NONE, NONE, NONE, 2, NONE};
        for (int t = 0; t < due.length; t++) {
            due("itemOf(" + t + ")", x.itemOf(t), due[t]);
        }
        due("itemOf(-1)", x.itemOf(-1), NONE);
    }

    private static void depth() {
        begin("promise 16");
        EditedText x = of("a{b;c{d}e}a}b;{{c");
        int[] due = {0, 1, 1, 2, 1, 0, 0, 2, NONE};
        for (int i = 0; i < due.length; i++) {
            due("depth(" + i + ")", x.depth(i), due[i]);
        }
        due("depth(-1)", x.depth(-1), NONE);
        due("depth(0) in 79 blocks", of(many("{", 79) + "a").depth(0), 79);
    }

    private static void dueKnown(String text, int i, boolean want) {
        due("known(" + i + ") of " + text, of(text).known(i), want);
        if (!want) {
            due("value(" + i + ") of " + text, of(text).value(i), 0);
        }
    }

    private static void known() {
        begin("promise 17");
        dueKnown("1;", 0, true);
        dueKnown("0;", 0, true);
        dueKnown("1", 0, false);
        dueKnown("1+;", 0, false);
        dueKnown("a;", 0, false);
        dueKnown("a=1;", 0, true);
        dueKnown("a=a;", 0, false);
        dueKnown("a=1;a=a;", 1, true);
        dueKnown("a=b;a;", 1, false);
        dueKnown("a=1;a=b;a;", 2, false);
        dueKnown("0*a;", 0, false);
        dueKnown("a==a;", 0, false);
        dueKnown("a=1;a+b;", 1, false);
        dueKnown("a=1;b+a;", 1, false);
        dueKnown("b;b=1;", 0, false);
        dueKnown("a=1;a=2{a;", 2, true);
        dueKnown("1;", 1, false);
        dueKnown("1;", -1, false);
        dueKnown("", 0, false);
    }

    private static void dueValue(String text, int i, int want) {
        due("value(" + i + ") of " + text, of(text).value(i), want);
        due("known(" + i + ") of " + text, of(text).known(i), true);
    }

    private static void values() {
        begin("promise 18");
        dueValue("0;", 0, 0);
        dueValue("4;", 0, 4);
        dueValue("0120;", 0, 120);
        dueValue("43210;", 0, 43210);
        dueValue("2+3*4;", 0, 14);
        dueValue("2*3+4;", 0, 10);
        dueValue("(2+3)*4;", 0, 20);
        dueValue("4*(2+3);", 0, 20);
        dueValue("2*(1+(3*(1+1)))+1;", 0, 15);
        dueValue("1+1==2;", 0, 1);
        dueValue("1+1==3;", 0, 0);
        dueValue("2==1+1;", 0, 1);
        dueValue("2*2==2+2;", 0, 1);
        dueValue("(1==1)+(2==2)+(3==4);", 0, 2);
        dueValue("(1==2)==0;", 0, 1);
        dueValue("1==(2==2);", 0, 1);
        dueValue("3*(1==1)+1==4;", 0, 1);
        dueValue("(1==1)*3;(4);", 1, 4);
        dueValue("a=2;a*a;", 1, 4);
        dueValue("a=2;b=a+1;a=b*b;a;", 3, 9);
        dueValue("a=2;a=a+a;a=a+a;a=a+a;", 3, 16);
        due("value(0) of a wrong item", of("4").value(0), 0);
        due("value(0) of an unknown item", of("4+a;").value(0), 0);
        due("value(1) of no item", of("4;").value(1), 0);
        due("value(-1)", of("4;").value(-1), 0);
        EditedText x = of("a=4;a;");
        x.remove(3, 1);
        due("value(0) once it is wrong", x.value(0), 0);
    }

    private static void wrappingValues() {
        dueValue("2142433143;", 0, 2142433143);
        dueValue("4444444444;", 0, (int) 4444444444L);
        dueValue("2142433143+2142433143;", 0, 2142433143 + 2142433143);
        dueValue("44444*444444;", 0, 44444 * 444444);
        dueValue("2*1024*1024*1024==0+1024*1024*1024*2;", 0, 1);
        dueValue("4*1024*1024*1024;", 0, 0);
        dueValue("4*1024*1024*1024==0;", 0, 1);
        dueValue(many("4", 79) + ";", 0, new java.math.BigInteger(many("4", 79)).intValue());
    }

    private static void dueMeaning(String text, int t, int want) {
        due("meaning(" + t + ") of " + text, of(text).meaning(t), want);
    }

    private static void meanings() {
        begin("promise 19");
        dueMeaning("a=1;a;", 4, 0);
        dueMeaning("a=1;a;", 0, NONE);
        dueMeaning("a=1;a=2;", 4, NONE);
        dueMeaning("a=1;a=a;", 6, 0);
        dueMeaning("a=a;", 2, NONE);
        dueMeaning("a=1;a=2;a;", 8, 1);
        dueMeaning("a=1;a=;a;", 7, 0);
        dueMeaning("a=1;a=2}a;", 8, 0);
        dueMeaning("a=1;a", 4, NONE);
        dueMeaning("a=1;a+;", 4, NONE);
        dueMeaning("a=1;a}", 4, NONE);
        dueMeaning("a=1;(a)*a;", 5, 0);
        dueMeaning("a=1;(a)*a;", 8, 0);
        dueMeaning("a=1;(a)*a;", 4, NONE);
        dueMeaning("a=1;3;", 4, NONE);
        dueMeaning("a=1;a;", 1, NONE);
        dueMeaning("a=1;a;", 3, NONE);
        dueMeaning("a=1;a;", 6, NONE);
        dueMeaning("a=1;a;", -1, NONE);
        dueMeaning("a=1;ab;", 4, NONE);
        dueMeaning("ab=1;a;", 4, NONE);
        dueMeaning("a1=1;a10=2;a1;", 8, 0);
        dueMeaning("a01=1;a1=2;a01;", 8, 0);
        dueMeaning("ab=1;cb=2;ab;", 8, 0);
        dueMeaning("ab=1;ac=2;ab;", 8, 0);
        dueMeaning("a=b;a;", 4, 0);
        dueMeaning("a;a=1;", 0, NONE);
    }

    private static void meaningsInBlocks() {
        dueMeaning("a=1;{a;}", 5, 0);
        dueMeaning("a=1;{{a;", 6, 0);
        dueMeaning("{a=1;}a;", 6, NONE);
        dueMeaning("{a=1;}{a;}", 7, NONE);
        dueMeaning("{a=1;{}a;", 7, 0);
        dueMeaning("{a=1;{b}a;", 8, 0);
        dueMeaning("{a=1;{a=2;}a;", 11, 0);
        dueMeaning("{a=1;{a=2;a;", 10, 1);
        dueMeaning("a=1;{a=2;}a;", 10, 0);
        dueMeaning("{a=1;}}a;", 7, NONE);
        dueMeaning("a=1;}a;", 5, 0);
        dueMeaning("{a=1;}a=2;{a;", 11, 1);
        dueMeaning("{{a=1;}a;}", 7, NONE);
        dueMeaning("{{a=1;}{a;}}", 8, NONE);
        dueMeaning("{a=1;}{{a;}}", 8, NONE);
    }

    private static void uses() {
        begin("promise 20");
        EditedText x = of("a=1;a+a*(a);a=a;a;b=a;a;a");
        due("uses(0)", x.uses(0), 4);
        due("uses(1) of an expression", x.uses(1), NONE);
        due("uses(2)", x.uses(2), 3);
        due("uses(4)", x.uses(4), 0);
        due("uses(6) of a wrong item", x.uses(6), NONE);
        due("uses(7) of no item", x.uses(7), NONE);
        due("uses(-1)", x.uses(-1), NONE);
        x.append(15, -1, -1, -1);
        due("uses(2) once the last item is right", x.uses(2), 4);
        x.remove(0, 4);
        due("uses(0) once it is no definition", x.uses(0), NONE);
        due("uses(1)", x.uses(1), 4);
    }

    private static void dueLoose(String text, int want) {
        due("loose() of " + text, of(text).loose(), want);
    }

    private static void loose() {
        begin("promise 21");
        dueLoose("", 0);
        dueLoose("a;", 0);
        dueLoose("()((", 0);
        dueLoose("{}", 0);
        dueLoose("{", 1);
        dueLoose("}", 1);
        dueLoose("}{", 2);
        dueLoose("{}}", 1);
        dueLoose("{{}", 1);
        dueLoose("}}{{", 4);
        dueLoose("}{}{", 2);
        dueLoose("{a{b}c}", 0);
        dueLoose(many("{", 80), 80);
        dueLoose(many("}", 80), 80);
        dueLoose(many("{", 40) + many("}", 40), 0);
        dueLoose(many("}", 40) + many("{", 40), 80);
    }

    private static void wrong() {
        begin("promise 22");
        due("wrong() of nothing", of("").wrong(), 0);
        due("wrong() of ends", of(";;{}}").wrong(), 0);
        due("wrong() of right items", of("a;b=c;{c;}").wrong(), 0);
        due("wrong() of an end without ;", of("a;b").wrong(), 1);
        due("wrong() of many", of("a{b}c+;=;d;e").wrong(), 5);
        due("wrong() of a name that means nothing", of("a;").wrong(), 0);
    }

    private static void digest() {
        begin("promise 23");
        due("digest() of one", of("4;").digest(), 4);
        due("digest() of three", of("4;3;2;").digest(), 4 + 6 + 6);
        due("digest() with unknown items", of("4;a;b=2;b;3").digest(), 4 + 6 + 8);
        due("digest() of definitions", of("a=3;a=a*a;").digest(), 3 + 18);
        due("digest() with empty ends", of(";;4;;{3;}").digest(), 4 + 6);
        int most = (int) 4444444444L;
        due("digest() wrapping", of("4444444444;4444444444;4444444444;").digest(), most * 6);
        due("digest() of a great sum", of("0;0;0;2000000000;").digest(), 2000000000 * 4);
    }

    private static void limits() {
        begin("promise 24");
        EditedText x = of(many("a", 77));
        due("append of 4 at 77", x.append(1, 1, 1, 1), FULL);
        due("length()", x.length(), 77);
        due("character(77)", x.character(77), NONE);
        due("append of 4 at 77, one bad", x.append(1, 1, 1, 19), BAD);
        due("append of 3 at 77", x.append(1, -1, 1, 1), 80);
        due("append of none at 80", x.append(-1, -1, -1, -1), 80);
        due("append of the first at 80", x.append(0, -1, -1, -1), FULL);
        due("append of the second at 80", x.append(-1, 0, -1, -1), FULL);
        due("append of the third at 80", x.append(-1, -1, 0, -1), FULL);
        due("append of the last at 80", x.append(-1, -1, -1, 0), FULL);
        due("append of a bad one at 80", x.append(-1, -1, -1, -2), BAD);
        due("insert at 80", x.insert(40, 0), FULL);
        dueText("a full append", x, many("a", 77) + "bbb");
        due("remove(79, 1)", x.remove(79, 1), 79);
        due("append of 2 at 79", x.append(2, -1, -1, 2), FULL);
        due("insert at 79", x.insert(79, 2), 80);
        due("remove(0, 80)", x.remove(0, 80), 0);
    }

    private static void farArguments() {
        begin("arguments far out");
        EditedText x = of("a=1;{a;}");
        for (int far : FAR) {
            due("character(" + far + ")", x.character(far), NONE);
            due("kind(" + far + ")", x.kind(far), NONE);
            due("start(" + far + ")", x.start(far), NONE);
            due("tokenAt(" + far + ")", x.tokenAt(far), NONE);
            due("sort(" + far + ")", x.sort(far), NONE);
            due("itemOf(" + far + ")", x.itemOf(far), NONE);
            due("depth(" + far + ")", x.depth(far), NONE);
            due("known(" + far + ")", x.known(far), false);
            due("value(" + far + ")", x.value(far), 0);
            due("meaning(" + far + ")", x.meaning(far), NONE);
            due("uses(" + far + ")", x.uses(far), NONE);
            due("rename(" + far + ", 0)", x.rename(far, 0), NONE);
            due("rename(0, " + far + ")", x.rename(0, far), BAD);
            due("insert(" + far + ", 0)", x.insert(far, 0), BAD);
            due("insert(0, " + far + ")", x.insert(0, far), BAD);
            due("remove(" + far + ", 0)", x.remove(far, 0), BAD);
            due("remove(0, " + far + ")", x.remove(0, far), BAD);
            if (far != -1) {
                due("append(0, 0, 0, " + far + ")", x.append(0, 0, 0, far), BAD);
            }
        }
        dueText("refused calls", x, "a=1;{a;}");
    }
}
