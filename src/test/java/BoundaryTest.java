import java.math.BigInteger;
import java.util.ArrayList;
import java.util.List;
import java.util.function.IntUnaryOperator;
import java.util.function.ToIntFunction;

/**
 * Each sentence of the document that names a boundary case, with a test of its own: too small, too
 * large, empty, full, a wrap-around, a refused call. No object is asked more than 512 calls.
 */
public final class BoundaryTest {
    private static final String ALPHABET = "abcde01234=+*();{} ";
    private static final int MOST = 80;
    private static final int LEAST_INT = Integer.MIN_VALUE;
    private static final int MOST_INT = Integer.MAX_VALUE;
    private static final int BAD = -1;
    private static final int FULL = -2;
    private static final int NONE = -3;

    /** The text has digits from 0 to 4 alone, so the greatest int is written as a sum. */
    private static final String MOST_INT_TEXT = "2144444444+3034203+4000+1000";
    private static final String LEAST_INT_TEXT = "2*1024*1024*1024";

    private static String sentence = "";
    private static int failures = 0;

    public static void main(String[] args) {
        theTerms();
        thePromises();
        System.out.println(failures == 0 ? "all boundaries hold" : failures + " answers are not as due");
        if (failures != 0) {
            System.exit(1);
        }
    }

    private static void theTerms() {
        atMostEightyCharacters();
        characterNumbers();
        spacesArePassedOver();
        nameTakesAllDirectlyBehind();
        numberTakesAllDirectlyBehind();
        equalsSigns();
        tokensFromZeroOn();
        endsGoBackToTheOneBefore();
        endOfTheTextEnds();
        atLeastOneToken();
        definitionIsEndedBySemicolon();
        expressionItemIsEndedBySemicolon();
        elseItIsWrong();
        comparesAtMostOnce();
        bracketsToTheGreatestDepth();
        closesTheInnermostOpenBlock();
        looseWhenNoneIsOpen();
        looseAtTheEndOfTheText();
        lastDefinitionBefore();
        sameCharacters();
        blocksThatTheItemStandsIn();
        meansNothing();
        numbersWrap();
        sumsWrap();
        productsWrap();
        comparesWhatHasWrapped();
        unknownIfWrong();
        unknownIfANameMeansNothing();
        unknownThroughADefinition();
        noCallThrows();
        refusedCallsChangeNothing();
        constants();
        lastOfTheCalls();
    }

    private static void thePromises() {
        newObjectIsEmpty();
        insertMovesOn();
        insertTestsItsArguments();
        insertTestsArgumentsBeforeFull();
        appendKeepsTheOrder();
        appendTestsItsArguments();
        appendTestsArgumentsBeforeFull();
        removeTestsItsArguments();
        removeFarOut();
        renameTestsTheLetter();
        renameTestsTheLetterFirst();
        renameOfNoDefinition();
        renameCounts();
        renameLeavesTheRest();
        renameInAFullText();
        clearEmpties();
        lengths();
        noCharacter();
        tokenCounts();
        noKind();
        noStart();
        noTokenAt();
        itemCounts();
        noItem();
        itemOfNone();
        depthNone();
        depthFromNoneToMost();
        knownOfNone();
        valueElseZero();
        meaningNone();
        usesNone();
        usesFromNoneToMost();
        looseCounts();
        wrongCounts();
        digestWraps();
        digestLeavesOutTheUnknown();
        appendIsFullJustIfThereWouldBeMore();
        appendOfNothing();
        insertIsFullAtEighty();
    }

    private static void begin(String words) {
        sentence = words;
    }

    private static void due(String what, long got, long want) {
        if (got != want) {
            fail(what + " answered " + got + ", due is " + want);
        }
    }

    private static void due(String what, boolean got, boolean want) {
        if (got != want) {
            fail(what + " answered " + got + ", due is " + want);
        }
    }

    private static void due(String what, String got, String want) {
        if (!got.equals(want)) {
            fail(what + " is \"" + got + "\", due is \"" + want + "\"");
        }
    }

    private static void fail(String words) {
        failures++;
        System.out.println("[" + sentence + "] " + words);
    }

    private static int code(String text, int p) {
        return p < text.length() ? ALPHABET.indexOf(text.charAt(p)) : -1;
    }

    /** Four characters in a call, so that most of the 512 calls are left for the test. */
    private static EditedText of(String text) {
        EditedText x = new EditedText();
        for (int p = 0; p < text.length(); p += 4) {
            x.append(code(text, p), code(text, p + 1), code(text, p + 2), code(text, p + 3));
        }
        due("length() of " + text, x.length(), text.length());
        return x;
    }

    private static String textOf(EditedText x) {
        StringBuilder text = new StringBuilder();
        int length = x.length();
        for (int p = 0; p < length; p++) {
            int c = x.character(p);
            text.append(c >= 0 && c < ALPHABET.length() ? ALPHABET.charAt(c) : '?');
        }
        return text.toString();
    }

    private static String many(String part, int times) {
        return part.repeat(times);
    }

    private static String toEighty(String part) {
        return many(part, MOST).substring(0, MOST);
    }

    /** Numbers that are not from first to last, some of which a cast to byte or short would let in. */
    private static int[] outside(int first, int last) {
        return new int[] {LEAST_INT, LEAST_INT + 1, -65536, -256, -1000, first - 3, first - 2, first - 1, last + 1,
            last + 2, last + 3, 128 + last, 256 + last, 1000, 65536, 65536 + last, 1 << 30, MOST_INT - 1, MOST_INT};
    }

    private static void dueNone(String what, int count, IntUnaryOperator call) {
        for (int far : outside(0, count - 1)) {
            due(what + "(" + far + ") of " + count, call.applyAsInt(far), NONE);
        }
    }

    private static void dueItem(String text, int i, int sort, boolean known, int value) {
        EditedText x = of(text);
        due("sort(" + i + ") of " + text, x.sort(i), sort);
        due("known(" + i + ") of " + text, x.known(i), known);
        due("value(" + i + ") of " + text, x.value(i), value);
    }

    private static void dueWrong(String text, int i) {
        dueItem(text, i, 0, false, 0);
    }

    private static void dueValue(String expression, int value) {
        dueItem(expression + ";", 0, 1, true, value);
        dueItem("a=" + expression + ";", 0, 2, true, value);
    }

    private static void dueUnknown(String text, int i) {
        EditedText x = of(text);
        due("known(" + i + ") of " + text, x.known(i), false);
        due("value(" + i + ") of " + text, x.value(i), 0);
        due("sort(" + i + ") of " + text + " is 1 or 2", x.sort(i) >= 1, true);
    }

    private static void dueMeaning(String text, int t, int want) {
        due("meaning(" + t + ") of " + text, of(text).meaning(t), want);
    }

    // The terms

    private static void atMostEightyCharacters() {
        begin("The TEXT is a list of at most 80 CHARACTERS, at positions from 0 on");
        for (int c = 0; c <= 18; c++) {
            EditedText x = new EditedText();
            for (int n = 1; n <= MOST; n++) {
                due("insert number " + n, x.insert(n - 1, c), n);
            }
            due("insert number 81", x.insert(MOST, c), FULL);
            due("length()", x.length(), MOST);
            due("character(0)", x.character(0), c);
            due("character(79)", x.character(MOST - 1), c);
            due("character(80)", x.character(MOST), NONE);
        }
        EditedText x = of(toEighty("ab;"));
        due("append in a full text", x.append(0, 0, 0, 0), FULL);
        due("remove(40, 1)", x.remove(40, 1), MOST - 1);
        due("insert where one place is free", x.insert(40, 18), MOST);
        due("insert where none is free", x.insert(40, 18), FULL);
    }

    private static void characterNumbers() {
        begin("character 5 + d is the digit d");
        for (int d = 0; d <= 4; d++) {
            EditedText x = new EditedText();
            x.append(5 + d, 15, -1, -1);
            due("kind(0) of digit " + d, x.kind(0), 1);
            due("value(0) of digit " + d, x.value(0), d);
        }
        EditedText x = new EditedText();
        x.append(4, 15, -1, -1);
        due("kind(0) of the last letter", x.kind(0), 0);
        x = new EditedText();
        x.append(10, 15, -1, -1);
        due("kind(0) of =", x.kind(0), 2);
    }

    private static void dueTokens(String text, int... kindsAndStarts) {
        EditedText x = of(text);
        due("tokens() of " + text, x.tokens(), kindsAndStarts.length / 2);
        for (int t = 0; t < kindsAndStarts.length / 2; t++) {
            due("kind(" + t + ") of " + text, x.kind(t), kindsAndStarts[2 * t]);
            due("start(" + t + ") of " + text, x.start(t), kindsAndStarts[2 * t + 1]);
        }
    }

    private static void spacesArePassedOver() {
        begin("spaces are passed over");
        dueTokens(" ");
        dueTokens(toEighty(" "));
        dueTokens(" a", 0, 1);
        dueTokens("a ", 0, 0);
        dueTokens("a a", 0, 0, 0, 2);
        dueTokens("1 1", 1, 0, 1, 2);
        dueTokens("= =", 2, 0, 2, 2);
        dueTokens("a 1", 0, 0, 1, 2);
        dueTokens(many(" ", 79) + "a", 0, 79);
        dueItem(" a = 1 + 2 ; ", 0, 2, true, 3);
    }

    private static void nameTakesAllDirectlyBehind() {
        begin("a NAME, a letter with all letters and digits directly behind it");
        dueTokens(toEighty("abcde01234"), 0, 0);
        dueTokens("a0", 0, 0);
        dueTokens("e4", 0, 0);
        dueTokens("ae", 0, 0);
        int[] kinds = {2, 4, 5, 6, 7, 8, 9, 10};
        for (int c = 10; c <= 17; c++) {
            dueTokens("a0" + ALPHABET.charAt(c) + "a0", 0, 0, kinds[c - 10], 2, 0, 3);
        }
        EditedText x = of(toEighty("abcde01234"));
        due("tokenAt(79) of a long name", x.tokenAt(79), 0);
    }

    private static void numberTakesAllDirectlyBehind() {
        begin("a NUMBER, a digit with all digits directly behind it");
        dueTokens(toEighty("01234"), 1, 0);
        dueTokens("0a", 1, 0, 0, 1);
        dueTokens("4e", 1, 0, 0, 1);
        dueTokens("00a00", 1, 0, 0, 2);
        int[] kinds = {2, 4, 5, 6, 7, 8, 9, 10};
        for (int c = 10; c <= 17; c++) {
            dueTokens("40" + ALPHABET.charAt(c) + "04", 1, 0, kinds[c - 10], 2, 1, 3);
        }
    }

    private static void equalsSigns() {
        begin("3, two \"=\"; 2, one \"=\" with none behind");
        for (int n = 1; n <= MOST; n++) {
            EditedText x = of(many("=", n));
            int last = (n + 1) / 2 - 1;
            due("tokens() of " + n + " =", x.tokens(), last + 1);
            due("kind(0) of " + n + " =", x.kind(0), n == 1 ? 2 : 3);
            due("last kind of " + n + " =", x.kind(last), n % 2 == 1 ? 2 : 3);
            due("last start of " + n + " =", x.start(last), 2 * last);
            due("tokenAt of the last of " + n + " =", x.tokenAt(n - 1), last);
        }
    }

    private static void tokensFromZeroOn() {
        begin("Tokens are numbered from 0 on");
        for (char c : "+*();{}".toCharArray()) {
            EditedText x = of(toEighty("" + c));
            due("tokens() of 80 " + c, x.tokens(), MOST);
            for (int t = 0; t < MOST; t++) {
                due("start(" + t + ") of 80 " + c, x.start(t), t);
                due("tokenAt(" + t + ") of 80 " + c, x.tokenAt(t), t);
            }
        }
    }

    private static void dueItems(String text, int... itemOfEachToken) {
        EditedText x = of(text);
        int items = 0;
        due("tokens() of " + text, x.tokens(), itemOfEachToken.length);
        for (int t = 0; t < itemOfEachToken.length; t++) {
            due("itemOf(" + t + ") of " + text, x.itemOf(t), itemOfEachToken[t]);
            items = itemOfEachToken[t] == NONE ? items : itemOfEachToken[t] + 1;
        }
        due("items() of " + text, x.items(), items);
    }

    private static void endsGoBackToTheOneBefore() {
        begin("END what stands before them, back to the one of these three before (or the begin)");
        for (String end : new String[] {";", "{", "}"}) {
            dueItems("a" + end, 0, NONE);
            dueItems("a+1" + end, 0, 0, 0, NONE);
            for (String before : new String[] {";", "{", "}"}) {
                dueItems("a" + before + "a+1" + end, 0, NONE, 1, 1, 1, NONE);
                dueItems(before + "a+1" + end, NONE, 0, 0, 0, NONE);
            }
        }
    }

    private static void endOfTheTextEnds() {
        begin("so does the end of the text");
        dueItems("a", 0);
        dueItems("a ", 0);
        dueItems("a;b c", 0, NONE, 1, 1);
        dueItems("a{b", 0, NONE, 1);
        dueItems("a}b", 0, NONE, 1);
        dueWrong(toEighty("a"), 0);
        due("itemOf(79) of 80 +", of(toEighty("+")).itemOf(79), 0);
    }

    private static void atLeastOneToken() {
        begin("What stands there, if it is a token at least, is an ITEM");
        dueItems("");
        dueItems(" ");
        for (String end : new String[] {";", "{", "}"}) {
            dueItems(end, NONE);
            dueItems(" " + end + " ", NONE);
            dueItems(end + end, NONE, NONE);
            dueItems(end + " " + end, NONE, NONE);
            dueItems(end + "+" + end, NONE, 0, NONE);
            due("items() of 80 " + end, of(toEighty(end)).items(), 0);
        }
    }

    private static void definitionIsEndedBySemicolon() {
        begin("a DEFINITION if it is ended by \";\" and is a name, \"=\" and an expression");
        dueItem("a=1;", 0, 2, true, 1);
        dueItem("a=a;", 0, 2, false, 0);
        dueItem("e4=(1);", 0, 2, true, 1);
        dueItem("a=1==1;", 0, 2, true, 1);
        for (String bad : new String[] {"a=1", "a=1{", "a=1}", "a=;", "=1;", "a=", "=;", "1=1;", "a a=1;", "a=a=1;",
                "a= =1;", "a===1;", "(a)=1;", "a=1 1;", "a+=1;", "==1;", "a==;"}) {
            dueWrong(bad, 0);
        }
        String longName = many("a", 77);
        dueItem(longName + "=1;", 0, 2, true, 1);
        dueWrong(longName + "a=1", 0);
    }

    private static void expressionItemIsEndedBySemicolon() {
        begin("an EXPRESSION ITEM if it is ended by \";\" and is an expression");
        for (String right : new String[] {"1", "(1)", "0+1", "1*1", "1==1", "((1))"}) {
            dueItem(right + ";", 0, 1, true, 1);
            dueWrong(right, 0);
            dueWrong(right + "{", 0);
            dueWrong(right + "}", 0);
        }
        dueItem(many("a", 79) + ";", 0, 1, false, 0);
    }

    private static void elseItIsWrong() {
        begin("else it is WRONG");
        for (String one : new String[] {"=", "==", "+", "*", "(", ")"}) {
            dueWrong(one + ";", 0);
            dueWrong(one, 0);
            dueWrong("1" + one + ";", 0);
            dueWrong(one + "1;", 0);
            dueWrong("1 1" + one + "1;", 0);
            dueWrong("1" + one + " " + one + "1;", 0);
            due("wrong() of " + one, of(one + ";").wrong(), 1);
        }
        dueWrong("();", 0);
        dueWrong("a();", 0);
        dueWrong("(1)1;", 0);
        dueWrong("1(1);", 0);
        dueWrong("(1)(1);", 0);
        dueWrong("1 1;", 0);
        dueWrong("a 1;", 0);
        dueWrong("1a;", 0);
    }

    private static void comparesAtMostOnce() {
        begin("expression = sum [ \"==\" sum ]");
        dueItem("1==1;", 0, 1, true, 1);
        dueWrong("1==1==1;", 0);
        dueWrong("(1==1==1);", 0);
        dueWrong("1==(1==1==1);", 0);
        dueWrong("1==1+1==1;", 0);
        dueWrong("1==(1)==1;", 0);
        dueWrong("1==(1==1)==1;", 0);
        dueItem("(1==1)==1;", 0, 1, true, 1);
        dueItem("1==(1==1);", 0, 1, true, 1);
        dueItem("(1==1)==(1==1);", 0, 1, true, 1);
        dueItem("(1==1)+(1==1)*(1==1);", 0, 1, true, 2);
        dueItem("1==1;1==1;", 1, 1, true, 1);
        dueItem("(1==1)*3;(4);", 1, 1, true, 4);
        dueItem("4;4==4;", 0, 1, true, 4);
        dueItem("(4);(4==4);", 0, 1, true, 4);
    }

    private static void bracketsToTheGreatestDepth() {
        begin("factor = name | number | \"(\" expression \")\"");
        for (int n = 0; n <= 39; n++) {
            String brackets = many("(", n) + "4" + many(")", n) + ";";
            dueItem(brackets, 0, 1, true, 4);
            if (n > 0) {
                dueWrong(brackets.substring(1), 0);
                dueWrong(brackets.replace(");", ";"), 0);
            }
        }
        dueItem("a=" + many("(", 38) + "4" + many(")", 38) + ";", 0, 2, true, 4);
        dueWrong(toEighty("("), 0);
        dueWrong(toEighty(")"), 0);
        dueWrong(many("(", 79) + ";", 0);
        dueWrong(many("(", 78) + "1;", 0);
        dueWrong("1" + many(")", 78) + ";", 0);
        dueWrong("1)+(1;", 0);
        dueWrong("1)==1;", 0);
        dueWrong("1)==(1;", 0);
    }

    private static void closesTheInnermostOpenBlock() {
        begin("a \"}\" closes the innermost open one");
        EditedText x = of("{a=1;{b=2;}a;b;}a;");
        due("depth(2)", x.depth(2), 1);
        due("known(2), as the outer block is open", x.known(2), true);
        due("known(3), as the inner block is closed", x.known(3), false);
        due("depth(4)", x.depth(4), 0);
        due("known(4), as both are closed", x.known(4), false);
        due("loose()", x.loose(), 0);
        x = of(many("{", 39) + many("}", 39) + "a;");
        due("depth(0) behind 39 blocks", x.depth(0), 0);
        due("loose() of 39 blocks", x.loose(), 0);
    }

    private static void looseWhenNoneIsOpen() {
        begin("if none is open it is LOOSE");
        EditedText x = of("a=1;}a;{a;}}a;");
        due("loose()", x.loose(), 2);
        due("depth(1)", x.depth(1), 0);
        due("depth(2)", x.depth(2), 1);
        due("depth(3)", x.depth(3), 0);
        due("value(1), as a loose } closes nothing", x.value(1), 1);
        due("value(3), as a loose } closes nothing", x.value(3), 1);
        x = of(many("}", 76) + "{a;}");
        due("loose() of 76 }", x.loose(), 76);
        due("depth(0) behind 76 loose }", x.depth(0), 1);
    }

    private static void looseAtTheEndOfTheText() {
        begin("Blocks still open at the end of the text are LOOSE too");
        due("loose() of {", of("{").loose(), 1);
        due("loose() of {a;", of("{a;").loose(), 1);
        due("loose() of }{", of("}{").loose(), 2);
        due("loose() of {{}", of("{{}").loose(), 1);
        due("loose() of 80 {", of(toEighty("{")).loose(), MOST);
        dueItem("{a=1;{a;", 1, 1, true, 1);
    }

    private static void lastDefinitionBefore() {
        begin("MEANS the last definition before this item of the same name");
        dueMeaning("a=1;a=2;a;a=3;", 8, 1);
        dueMeaning("a=1;a=a;", 6, 0);
        dueMeaning("a=a;", 2, NONE);
        dueMeaning("a;a=1;", 0, NONE);
        dueMeaning("a=1;a=2{a;", 8, 0);
        dueMeaning("a=1;a;a;", 6, 0);
        String chain = many("a=a;", 20);
        for (int i = 0; i < 20; i++) {
            due("meaning in definition " + i + " of 20", of(chain).meaning(4 * i + 2), i == 0 ? NONE : i - 1);
        }
        due("meaning of the far first", of("a=1;" + many("1;", 37) + "a;").meaning(78), 0);
    }

    private static void sameCharacters() {
        begin("of the same name (the same characters)");
        dueMeaning("a=1;aa;", 4, NONE);
        dueMeaning("aa=1;a;", 4, NONE);
        dueMeaning("a0=1;a00;", 4, NONE);
        dueMeaning("a1=1;a01;", 4, NONE);
        dueMeaning("ab=1;ba;", 4, NONE);
        dueMeaning("ab=1;ac;", 4, NONE);
        dueMeaning("ab=1;cb;", 4, NONE);
        dueMeaning("a b=1;b;", 5, NONE);
        String longName = toEighty("abcde01234").substring(0, 38);
        due("meaning of a name of 38", of(longName + "=1;" + longName + ";").meaning(4), 0);
        due("meaning of a name of 37", of(longName + "=1;" + longName.substring(0, 37) + ";").meaning(4), NONE);
        due("meaning of another end", of(longName + "=1;" + longName.substring(0, 37) + "e;").meaning(4), NONE);
    }

    private static void blocksThatTheItemStandsIn() {
        begin("that stands in blocks all of which the item stands in");
        dueMeaning("a=1;{a;", 5, 0);
        dueMeaning("{a=1;a;", 5, 0);
        dueMeaning("{a=1;}a;", 6, NONE);
        dueMeaning("{a=1;}{a;", 7, NONE);
        dueMeaning("{a=1;{a;", 6, 0);
        dueMeaning("{a=1;{}a;", 7, 0);
        dueMeaning("{{a=1;}a;", 7, NONE);
        dueMeaning("{{a=1;}{a;", 8, NONE);
        dueMeaning("a=1;{a=2;}a;", 10, 0);
        dueMeaning("a=1;" + many("{", 37) + many("}", 37) + "a;", 78, 0);
        dueMeaning("a=1;" + many("{", 74) + "a;", 78, 0);
        dueMeaning(many("{", 37) + "a=1;" + many("}", 37) + "a;", 78, NONE);
        dueMeaning(many("{", 37) + "a=1;" + many("{}", 18) + "a;", 77, 0);
    }

    private static void meansNothing() {
        begin("if there is none it means nothing");
        dueMeaning("a;", 0, NONE);
        dueMeaning("b=1;a;", 4, NONE);
        dueMeaning("a=;a;", 3, NONE);
        dueMeaning("a;a;", 2, NONE);
        dueMeaning("a=1}a;", 4, NONE);
        EditedText x = of("b=a;a;");
        due("uses(0) where no name means it", x.uses(0), 0);
        due("rename(0, 2) leaves what means nothing", x.rename(0, 2), 1);
        due("the text", textOf(x), "c=a;a;");
    }

    private static void numbersWrap() {
        begin("a number is its digits read with base 10, wrapping as ints do");
        dueValue("0", 0);
        dueValue(many("0", 77), 0);
        dueValue(many("0", 76) + "4", 4);
        dueValue("2144444444", 2144444444);
        dueValue("2200000000", -2094967296);
        dueValue("4444444444", 149477148);
        dueValue("1" + many("0", 31), LEAST_INT);
        dueValue("1" + many("0", 32), 0);
        dueValue("1" + many("0", 76), 0);
        for (String digits : new String[] {"4", "3", "1", "10", "24", "43210", "1234"}) {
            for (int n = 1; n <= 77; n++) {
                String number = many(digits, n).substring(0, n);
                dueValue(number, new BigInteger(number).intValue());
            }
        }
    }

    private static void sumsWrap() {
        begin("+ and * add and multiply, wrapping (add)");
        dueValue(MOST_INT_TEXT, MOST_INT);
        dueValue(MOST_INT_TEXT + "+1", LEAST_INT);
        dueValue("1+" + MOST_INT_TEXT, LEAST_INT);
        dueValue(MOST_INT_TEXT + "+2", LEAST_INT + 1);
        dueValue(MOST_INT_TEXT + "+" + MOST_INT_TEXT, -2);
        dueValue(LEAST_INT_TEXT + "+" + LEAST_INT_TEXT, 0);
        dueValue(LEAST_INT_TEXT + "+" + MOST_INT_TEXT, -1);
        dueItem("a=" + MOST_INT_TEXT + ";a+a;", 1, 1, true, -2);
        dueItem("a=" + MOST_INT_TEXT + ";a=a+1;a+a;", 2, 1, true, 0);
    }

    private static void productsWrap() {
        begin("+ and * add and multiply, wrapping (multiply)");
        dueValue("1024*1024*1024", 1 << 30);
        dueValue(LEAST_INT_TEXT, LEAST_INT);
        dueValue("1024*1024*1024*2", LEAST_INT);
        dueValue("1024*1024*1024*3", -(1 << 30));
        dueValue("1024*1024*1024*4", 0);
        dueValue("(" + MOST_INT_TEXT + ")*2", -2);
        dueValue("(" + MOST_INT_TEXT + ")*(" + MOST_INT_TEXT + ")", 1);
        dueValue("2144444444*2144444444", 2144444444 * 2144444444);
        dueItem("a=" + LEAST_INT_TEXT + ";a*a;", 1, 1, true, 0);
        dueItem("a=" + LEAST_INT_TEXT + ";a*3;", 1, 1, true, LEAST_INT);
        dueItem("a=2*(" + MOST_INT_TEXT + ")+1;a*a;", 1, 1, true, 1);
        dueItem("a=2*(" + MOST_INT_TEXT + ")+1;a*(a*1024);", 1, 1, true, 1024);
    }

    private static void comparesWhatHasWrapped() {
        begin("== gives 1 if both are the same, else 0");
        dueValue("0==0", 1);
        dueValue("0==1", 0);
        dueValue("1==0", 0);
        dueValue("2==2", 1);
        dueValue("4*1024*1024*1024==0", 1);
        dueValue("1" + many("0", 32) + "==0", 1);
        dueValue("2144444444+1==2144444444", 0);
        dueValue(MOST_INT_TEXT + "+1==" + LEAST_INT_TEXT, 1);
        dueValue(MOST_INT_TEXT + "==" + LEAST_INT_TEXT, 0);
        dueValue(MOST_INT_TEXT + "==" + MOST_INT_TEXT, 1);
        dueValue(LEAST_INT_TEXT + "==" + LEAST_INT_TEXT, 1);
        dueValue("4444444444==144444444+4032304+1000400", 1);
    }

    private static void unknownIfWrong() {
        begin("UNKNOWN if the item is wrong");
        dueWrong("1", 0);
        dueWrong("1{", 0);
        dueWrong("1}", 0);
        dueWrong("1+;", 0);
        dueWrong("a=1", 0);
        EditedText x = of("4;");
        due("known(0)", x.known(0), true);
        x.remove(1, 1);
        due("known(0) once its end is gone", x.known(0), false);
        due("value(0) once its end is gone", x.value(0), 0);
    }

    private static void unknownIfANameMeansNothing() {
        begin("or a name in it means nothing");
        dueUnknown("a;", 0);
        dueUnknown("a=a;", 0);
        dueUnknown("1+a;", 0);
        dueUnknown("a+1;", 0);
        dueUnknown("0*a;", 0);
        dueUnknown("a==a;", 0);
        dueUnknown("((a))==0;", 0);
        dueUnknown("a=1;a+b;", 1);
        dueUnknown("a=1;b+a;", 1);
        dueItem("a=1;", 0, 2, true, 1);
    }

    private static void unknownThroughADefinition() {
        begin("or a definition whose value is unknown");
        dueUnknown("a=b;a;", 1);
        dueUnknown("a=1;a=b;a;", 2);
        dueUnknown("a=b;a=a;a=a;a;", 3);
        dueUnknown("a=b;0*a;", 1);
        dueUnknown("a=b;a==a;", 1);
        dueUnknown("a=b;c=1;c+a;", 2);
        dueUnknown("a=b;c=1;a+c;", 2);
        dueUnknown(many("a=a;", 20), 19);
        dueItem("a=1;" + many("a=a;", 19), 19, 2, true, 1);
        dueItem("a=b;a=1;a;", 2, 1, true, 1);
    }

    private static void noCallThrows() {
        begin("No call ever throws");
        int[] edges = {LEAST_INT, -81, -80, -3, -2, -1, 0, 1, 39, 40, 79, 80, 81, MOST_INT};
        for (int a = 0; a <= 18; a++) {
            for (int b = 0; b <= 18; b++) {
                String text = toEighty("" + ALPHABET.charAt(a) + ALPHABET.charAt(b));
                EditedText x = of(text);
                for (int edge : edges) {
                    askAll(x, edge);
                }
                for (int edge : edges) {
                    x.rename(edge, edge & 3);
                    x.insert(edge, a);
                    x.append(edge, b, -1, a);
                }
            }
        }
        EditedText x = of(toEighty("a=1;"));
        for (int p : edges) {
            for (int n : edges) {
                x.remove(p, n);
            }
        }
    }

    private static void askAll(EditedText x, int at) {
        x.character(at);
        x.kind(at);
        x.start(at);
        x.tokenAt(at);
        x.sort(at);
        x.itemOf(at);
        x.depth(at);
        x.known(at);
        x.value(at);
        x.meaning(at);
        x.uses(at);
        x.digest();
        x.wrong();
        x.loose();
    }

    private record Refused(String call, ToIntFunction<EditedText> made, int code) { }

    /** Every kind of question has an object of its own, so that none is asked more than 512 calls. */
    private static List<String> answersAfter(String text, ToIntFunction<EditedText> made) {
        List<String> answers = new ArrayList<>();
        for (int question = 0; question < 13; question++) {
            EditedText x = of(text);
            made.applyAsInt(x);
            StringBuilder words = new StringBuilder("question " + question + ":");
            for (int at = -1; at <= MOST && question < 11; at++) {
                words.append(' ').append(answer(x, question, at));
            }
            if (question == 11) {
                words.append(x.length()).append(' ').append(x.tokens()).append(' ').append(x.items()).append(' ');
                words.append(x.loose()).append(' ').append(x.wrong()).append(' ').append(x.digest());
            }
            if (question == 12) {
                words.append(x.rename(0, 3)).append(' ').append(x.remove(0, 1)).append(' ');
                words.append(x.insert(0, 4)).append(' ').append(x.append(-1, 1, -1, -1)).append(textOf(x));
            }
            answers.add(words.toString());
        }
        return answers;
    }

    private static int answer(EditedText x, int question, int at) {
        switch (question) {
            case 0: return x.character(at);
            case 1: return x.tokenAt(at);
            case 2: return x.kind(at);
            case 3: return x.start(at);
            case 4: return x.itemOf(at);
            case 5: return x.meaning(at);
            case 6: return x.sort(at);
            case 7: return x.depth(at);
            case 8: return x.known(at) ? 1 : 0;
            case 9: return x.value(at);
            default: return x.uses(at);
        }
    }

    private static List<Refused> refusedCalls(int length, int items) {
        List<Refused> calls = new ArrayList<>();
        for (int p : new int[] {-1, length + 1, MOST_INT, LEAST_INT}) {
            calls.add(new Refused("insert(" + p + ", 0)", x -> x.insert(p, 0), BAD));
            calls.add(new Refused("remove(" + p + ", 0)", x -> x.remove(p, 0), BAD));
            calls.add(new Refused("remove(" + p + ", 1)", x -> x.remove(p, 1), BAD));
        }
        for (int c : new int[] {-2, 19, MOST_INT, LEAST_INT}) {
            calls.add(new Refused("insert(0, " + c + ")", x -> x.insert(0, c), BAD));
            calls.add(new Refused("append(" + c + ", 0, 0, 0)", x -> x.append(c, 0, 0, 0), BAD));
            calls.add(new Refused("append(0, " + c + ", 0, 0)", x -> x.append(0, c, 0, 0), BAD));
            calls.add(new Refused("append(0, 0, " + c + ", 0)", x -> x.append(0, 0, c, 0), BAD));
            calls.add(new Refused("append(0, 0, 0, " + c + ")", x -> x.append(0, 0, 0, c), BAD));
            calls.add(new Refused("rename(0, " + c + ")", x -> x.rename(0, c), BAD));
        }
        for (int n : new int[] {-1, length + 1, MOST_INT, LEAST_INT}) {
            calls.add(new Refused("remove(0, " + n + ")", x -> x.remove(0, n), BAD));
            calls.add(new Refused("remove(" + length + ", " + n + ")", x -> x.remove(length, n), BAD));
        }
        for (int i : new int[] {-1, items, MOST, MOST_INT, LEAST_INT}) {
            calls.add(new Refused("rename(" + i + ", 1)", x -> x.rename(i, 1), NONE));
        }
        calls.add(new Refused("rename(0, 5)", x -> x.rename(0, 5), BAD));
        calls.add(new Refused("rename(0, -1)", x -> x.rename(0, -1), BAD));
        if (length > MOST - 4) {
            calls.add(new Refused("append(1, 1, 1, 1)", x -> x.append(1, 1, 1, 1), FULL));
        }
        if (length == MOST) {
            calls.add(new Refused("insert(0, 1)", x -> x.insert(0, 1), FULL));
            calls.add(new Refused("insert(80, 1)", x -> x.insert(MOST, 1), FULL));
            calls.add(new Refused("append(-1, -1, -1, 1)", x -> x.append(-1, -1, -1, 1), FULL));
            calls.add(new Refused("append(1, -1, -1, -1)", x -> x.append(1, -1, -1, -1), FULL));
        }
        return calls;
    }

    private static void refusedCallsChangeNothing() {
        begin("A refused call answers the code named and changes nothing");
        String full = "a=4;{b=a;a*b==4+(a);}}b;c=b;" + many("a1=a;", 10) + "a1";
        for (String text : new String[] {"", "a=1;{a;}", "a=1;b=c;{a=2;a+b;", full.substring(0, 77),
                full.substring(0, 79), full, toEighty("{"), toEighty(" ")}) {
            List<String> before = answersAfter(text, x -> 0);
            for (Refused refused : refusedCalls(text.length(), of(text).items())) {
                due(refused.call + " of " + text, refused.made.applyAsInt(of(text)), refused.code);
                List<String> after = answersAfter(text, refused.made);
                for (int k = 0; k < before.size(); k++) {
                    due("what stands after " + refused.call, after.get(k), before.get(k));
                }
            }
        }
        Refused ofExpression = new Refused("rename(1, 2)", x -> x.rename(1, 2), NONE);
        Refused ofWrong = new Refused("rename(2, 2)", x -> x.rename(2, 2), NONE);
        for (Refused refused : new Refused[] {ofExpression, ofWrong}) {
            due(refused.call, refused.made.applyAsInt(of("a=1;a;a")), NONE);
            due("what stands after " + refused.call, answersAfter("a=1;a;a", refused.made).toString(),
                answersAfter("a=1;a;a", x -> 0).toString());
        }
    }

    private static void constants() {
        begin("The constants: BAD_ARG = -1, FULL = -2, NONE = -3");
        due("BAD_ARG", EditedText.BAD_ARG, -1);
        due("FULL", EditedText.FULL, -2);
        due("NONE", EditedText.NONE, -3);
    }

    private static void lastOfTheCalls() {
        begin("An object is used for at most 512 calls");
        EditedText x = new EditedText();
        x.append(0, 10, 6, 15);
        x.append(0, 15, -1, -1);
        for (int call = 3; call < 511; call += 2) {
            due("call " + call, x.insert(2, 6), 7);
            due("call " + (call + 1), x.remove(2, 1), 6);
        }
        due("call 511", x.rename(0, 1), 2);
        due("call 512", x.digest(), 3);
    }

    // The promises

    private static void newObjectIsEmpty() {
        begin("promise 1: The text is empty");
        EditedText x = new EditedText();
        due("length()", x.length(), 0);
        due("tokens()", x.tokens(), 0);
        due("items()", x.items(), 0);
        due("loose()", x.loose(), 0);
        due("wrong()", x.wrong(), 0);
        due("digest()", x.digest(), 0);
        due("known(0)", x.known(0), false);
        due("value(0)", x.value(0), 0);
        due("remove(0, 0)", new EditedText().remove(0, 0), 0);
        due("remove(0, 1)", new EditedText().remove(0, 1), BAD);
        due("insert(1, 0)", new EditedText().insert(1, 0), BAD);
        due("insert(0, 0)", new EditedText().insert(0, 0), 1);
        due("rename(0, 0)", new EditedText().rename(0, 0), NONE);
        due("append of nothing", new EditedText().append(-1, -1, -1, -1), 0);
        due("all answers", answersAfter("", y -> 0).toString(), answersAfter("", y -> {
            y.clear();
            return 0;
        }).toString());
    }

    private static void insertMovesOn() {
        begin("promise 2: what stood there and behind moves on by one");
        for (String text : new String[] {"", "a", "abcde01234=+*();{} ", toEighty("ab;").substring(1)}) {
            for (int p = 0; p <= text.length(); p++) {
                EditedText x = of(text);
                due("insert(" + p + ", 9)", x.insert(p, 9), text.length() + 1);
                due("the text", textOf(x), text.substring(0, p) + "4" + text.substring(p));
            }
        }
    }

    private static void insertTestsItsArguments() {
        begin("promise 2: c not 0 to 18, or p not 0 to the length, answers BAD_ARG");
        for (int length : new int[] {0, 1, 2, 40, 78, 79}) {
            String text = many("a", length);
            EditedText x = of(text);
            for (int p : outside(0, length)) {
                due("insert(" + p + ", 0) at " + length, x.insert(p, 0), BAD);
                due("insert(" + p + ", 19) at " + length, x.insert(p, 19), BAD);
            }
            for (int c : outside(0, 18)) {
                due("insert(0, " + c + ") at " + length, x.insert(0, c), BAD);
                due("insert(length, " + c + ") at " + length, x.insert(length, c), BAD);
            }
            for (int c = 0; c <= 18; c++) {
                due("insert(0, " + c + ") at " + length, of(text).insert(0, c), length + 1);
                due("insert(length, " + c + ") at " + length, of(text).insert(length, c), length + 1);
            }
        }
    }

    private static void insertTestsArgumentsBeforeFull() {
        begin("promise 2: Tested in this order: BAD_ARG; FULL");
        EditedText x = of(toEighty("a;"));
        for (int p : outside(0, MOST)) {
            due("insert(" + p + ", 0) in a full text", x.insert(p, 0), BAD);
        }
        for (int c : outside(0, 18)) {
            due("insert(0, " + c + ") in a full text", x.insert(0, c), BAD);
            due("insert(80, " + c + ") in a full text", x.insert(MOST, c), BAD);
        }
        for (int p = 0; p <= MOST; p++) {
            due("insert(" + p + ", 0) in a full text", x.insert(p, 0), FULL);
        }
        for (int c = 0; c <= 18; c++) {
            due("insert(0, " + c + ") in a full text", x.insert(0, c), FULL);
        }
    }

    private static void appendKeepsTheOrder() {
        begin("promise 3: Those of a, b, c and d that are not -1 are appended, in this order");
        for (int mask = 0; mask < 16; mask++) {
            String letters = "";
            int[] c = new int[4];
            for (int k = 0; k < 4; k++) {
                boolean there = (mask >> k & 1) == 1;
                c[k] = there ? k : -1;
                letters += there ? "abcd".substring(k, k + 1) : "";
            }
            for (String text : new String[] {"", "e", many("e", 76)}) {
                EditedText x = of(text);
                due("append with mask " + mask, x.append(c[0], c[1], c[2], c[3]), text.length() + letters.length());
                due("the text", textOf(x), text + letters);
            }
        }
    }

    private static void appendTestsItsArguments() {
        begin("promise 3: one is neither -1 nor 0 to 18 answers BAD_ARG");
        for (int other : new int[] {-1, 0, 18}) {
            for (int c : outside(-1, 18)) {
                EditedText x = of("a=1;");
                due("append, the first " + c, x.append(c, other, other, other), BAD);
                due("append, the second " + c, x.append(other, c, other, other), BAD);
                due("append, the third " + c, x.append(other, other, c, other), BAD);
                due("append, the last " + c, x.append(other, other, other, c), BAD);
                due("append, all " + c, x.append(c, c, c, c), BAD);
                due("the text", textOf(x), "a=1;");
            }
        }
        for (int c = 0; c <= 18; c++) {
            due("append four times " + c, of("a=1;").append(c, c, c, c), 8);
        }
    }

    private static void appendTestsArgumentsBeforeFull() {
        begin("promise 3: Tested in this order: BAD_ARG; FULL");
        for (int length = 77; length <= MOST; length++) {
            for (int bad : new int[] {-2, 19, LEAST_INT, MOST_INT}) {
                EditedText x = of(many("a", length));
                due("append, the first " + bad, x.append(bad, 0, 0, 0), BAD);
                due("append, the second " + bad, x.append(0, bad, 0, 0), BAD);
                due("append, the third " + bad, x.append(0, 0, bad, 0), BAD);
                due("append, the last " + bad, x.append(0, 0, 0, bad), BAD);
                due("append of a bad one alone", x.append(-1, -1, -1, bad), BAD);
                due("append of four", x.append(0, 0, 0, 0), FULL);
            }
        }
    }

    private static void removeTestsItsArguments() {
        begin("promise 4: BAD_ARG if p is not 0 to the length, or n not 0 to the length less p");
        for (String text : new String[] {"", "a", "a;", "abc=1", toEighty("abc;")}) {
            int length = text.length();
            for (int p = -3; p <= length + 3; p++) {
                for (int n = -4; n <= length + 3; n++) {
                    boolean taken = p >= 0 && p <= length && n >= 0 && n <= length - p;
                    EditedText x = of(text);
                    due("remove(" + p + ", " + n + ") of " + length, x.remove(p, n), taken ? length - n : BAD);
                    due("the text", textOf(x), taken ? text.substring(0, p) + text.substring(p + n) : text);
                }
            }
        }
    }

    private static void removeFarOut() {
        begin("promise 4: BAD_ARG, with numbers whose sum or difference wraps");
        for (String text : new String[] {"", "abc", toEighty("abc;")}) {
            int length = text.length();
            EditedText x = of(text);
            for (int n : outside(0, length)) {
                due("remove(0, " + n + ")", x.remove(0, n), BAD);
                due("remove(length, " + n + ")", x.remove(length, n), BAD);
                due("remove(" + n + ", 0)", x.remove(n, 0), BAD);
                due("remove(" + n + ", length)", x.remove(n, length), BAD);
                due("remove(" + n + ", length - " + n + ")", x.remove(n, length - n), BAD);
                due("remove(" + n + ", -" + n + ")", x.remove(n, -n), BAD);
            }
            due("remove(1, most)", x.remove(1, MOST_INT), BAD);
            due("remove(most, most)", x.remove(MOST_INT, MOST_INT), BAD);
            due("remove(least, least)", x.remove(LEAST_INT, LEAST_INT), BAD);
            due("the text", textOf(x), text);
        }
    }

    private static void renameTestsTheLetter() {
        begin("promise 5: c not 0 to 4 answers BAD_ARG");
        for (int c = 0; c <= 4; c++) {
            EditedText x = of("ab=1;ab;");
            due("rename(0, " + c + ")", x.rename(0, c), 2);
            due("character(0)", x.character(0), c);
            due("character(4)", x.character(4), c);
            due("length()", x.length(), 6);
        }
        EditedText x = of("ab=1;ab;");
        for (int c : outside(0, 4)) {
            due("rename(0, " + c + ")", x.rename(0, c), BAD);
        }
        for (int c = 5; c <= 18; c++) {
            due("rename(0, " + c + ")", x.rename(0, c), BAD);
        }
        due("the text", textOf(x), "ab=1;ab;");
    }

    private static void renameTestsTheLetterFirst() {
        begin("promise 5: Tested in this order: BAD_ARG; NONE");
        EditedText x = of("a=1;a;a");
        for (int i : new int[] {LEAST_INT, -1, 1, 2, 3, MOST, MOST_INT}) {
            due("rename(" + i + ", -1)", x.rename(i, -1), BAD);
            due("rename(" + i + ", 5)", x.rename(i, 5), BAD);
            due("rename(" + i + ", 0)", x.rename(i, 0), NONE);
            due("rename(" + i + ", 4)", x.rename(i, 4), NONE);
        }
        due("rename(0, 5) of an empty text", new EditedText().rename(0, 5), BAD);
        due("rename(0, 4) of an empty text", new EditedText().rename(0, 4), NONE);
    }

    private static void renameOfNoDefinition() {
        begin("promise 5: NONE if item i is no definition");
        for (String text : new String[] {"", ";", "1;", "a;", "a==1;", "a=1", "a=1{", "a=1}", "a=;", "=1;"}) {
            EditedText x = of(text);
            due("rename(0, 1) of " + text, x.rename(0, 1), NONE);
            due("the text", textOf(x), text);
        }
        EditedText x = of("a=1;b=2;");
        for (int i : outside(0, 1)) {
            due("rename(" + i + ", 2) of two", x.rename(i, 2), NONE);
        }
        due("rename(1, 2), the last", x.rename(1, 2), 1);
        due("rename(0, 3), the first", x.rename(0, 3), 1);
        due("the text", textOf(x), "d=1;c=2;");
    }

    private static void renameCounts() {
        begin("promise 5: Otherwise how many names are replaced");
        due("rename where no name means it", of("a=1;").rename(0, 1), 1);
        due("rename to the same name", of("a=1;a;").rename(0, 0), 2);
        due("rename of one that uses its own name", of("a=a;").rename(0, 1), 1);
        String uses = "a=1;" + many("a+", 37) + "a;";
        EditedText x = of(uses);
        due("rename where 38 names mean it", x.rename(0, 4), 39);
        due("the text", textOf(x), uses.replace('a', 'e'));
        x = of("a=1;a=a;a;");
        due("rename of the first of two", x.rename(0, 1), 2);
        due("the text", textOf(x), "b=1;a=b;a;");
        x = of("a=1;{a=2;a;}a;");
        due("rename of the one in the block", x.rename(1, 2), 2);
        due("the text", textOf(x), "a=1;{c=2;c;}a;");
    }

    private static void renameLeavesTheRest() {
        begin("promise 5: The name of definition i, and all names that mean it, are replaced");
        String[] texts = {"ab=1;ab;", "c=1;c;", " ab = 1 ; ab * ab ; ", " c = 1 ; c * c ; ", "{ab=1;ab;}ab;ab",
            "{c=1;c;}ab;ab", "ab=ab;ab;abc;", "c=ab;c;abc;", "ab=1;c=2;ab+c;", "c=1;c=2;c+c;"};
        for (int k = 0; k < texts.length; k += 2) {
            EditedText x = of(texts[k]);
            x.rename(0, 2);
            due("the text", textOf(x), texts[k + 1]);
            due("all answers after rename(0, 2) of " + texts[k],
                answersAfter(texts[k], y -> y.rename(0, 2)).toString(), answersAfter(texts[k + 1], y -> 0).toString());
        }
    }

    private static void renameInAFullText() {
        begin("promise 5: names are replaced by the one letter c, in a full text");
        String text = "ab=1;" + many("ab+", 24) + "ab;";
        EditedText x = of(text);
        due("length()", x.length(), MOST);
        due("rename(0, 2)", x.rename(0, 2), 26);
        due("length() after that", x.length(), MOST - 26);
        due("the text", textOf(x), text.replace("ab", "c"));
        due("insert where places are free", x.insert(0, 18), MOST - 25);
        x = of("a=1;" + many("a+", 37) + "a;");
        due("rename of one letter", x.rename(0, 3), 39);
        due("insert where none is free", x.insert(0, 18), FULL);
        String name = toEighty("e4").substring(0, 77);
        x = of(name + "=1;");
        due("rename of a name of 77", x.rename(0, 0), 1);
        due("the text", textOf(x), "a=1;");
    }

    private static void clearEmpties() {
        begin("promise 6: The text is empty from now on");
        String empty = answersAfter("", x -> 0).toString();
        for (String text : new String[] {"", "a", "a=1;{a;", toEighty("a=1;"), toEighty("{"), toEighty("}a")}) {
            due("all answers after clear() of " + text, answersAfter(text, x -> {
                x.clear();
                return 0;
            }).toString(), empty);
        }
        EditedText x = of(toEighty("a=1;"));
        x.clear();
        for (int n = 1; n <= MOST; n++) {
            due("insert number " + n + " after clear()", x.insert(0, 11), n);
        }
        due("insert number 81 after clear()", x.insert(0, 11), FULL);
    }

    private static void lengths() {
        begin("promise 7: The number of characters");
        EditedText x = new EditedText();
        for (int n = 0; n < MOST; n++) {
            due("length() of " + n, x.length(), n);
            x.insert(0, n % 19);
        }
        due("length() of a full text", x.length(), MOST);
        x.insert(0, 0);
        due("length() after a refused insert", x.length(), MOST);
        x.remove(0, MOST);
        due("length() of an emptied text", x.length(), 0);
    }

    private static void noCharacter() {
        begin("promise 8: NONE if there is none");
        for (int length : new int[] {0, 1, 2, 40, 79, 80}) {
            EditedText x = of(many("e", length));
            dueNone("character", length, x::character);
            if (length > 0) {
                due("character(0) of " + length, x.character(0), 4);
                due("the last character of " + length, x.character(length - 1), 4);
            }
        }
        EditedText x = of("abc");
        x.remove(2, 1);
        due("character(2) once it is removed", x.character(2), NONE);
    }

    private static void tokenCounts() {
        begin("promise 9: The number of tokens");
        for (int count = 0; count <= MOST; count++) {
            due("tokens() of " + count, of(many("+", count)).tokens(), count);
        }
        due("tokens() of spaces", of(toEighty(" ")).tokens(), 0);
        due("tokens() of one long name", of(toEighty("a")).tokens(), 1);
        EditedText x = of("a+b");
        x.remove(1, 1);
        due("tokens() once two are one", x.tokens(), 1);
    }

    private static void noKind() {
        begin("promise 10: The kind of token t; NONE if there is none");
        for (int count : new int[] {0, 1, 2, 40, 79, 80}) {
            EditedText x = of(many("+", count));
            dueNone("kind", count, x::kind);
            if (count > 0) {
                due("kind of the last of " + count, x.kind(count - 1), 4);
            }
        }
        EditedText x = of("a+b");
        x.remove(1, 1);
        due("kind(1) once it is gone", x.kind(1), NONE);
        due("kind(0) of spaces", of("   ").kind(0), NONE);
    }

    private static void noStart() {
        begin("promise 11: The position at which token t begins; NONE if there is none");
        for (int count : new int[] {0, 1, 2, 40, 79, 80}) {
            EditedText x = of(many("+", count));
            dueNone("start", count, x::start);
            if (count > 0) {
                due("start of the last of " + count, x.start(count - 1), count - 1);
            }
        }
        EditedText x = of("a+b");
        x.remove(1, 1);
        due("start(1) once it is gone", x.start(1), NONE);
        due("start(0) of spaces", of("   ").start(0), NONE);
        due("start(0) behind 79 spaces", of(many(" ", 79) + "a").start(0), 79);
    }

    private static void noTokenAt() {
        begin("promise 12: NONE if there is none, or it is a space");
        for (int count : new int[] {0, 1, 2, 40, 79, 80}) {
            EditedText x = of(many("a", count));
            dueNone("tokenAt", count, x::tokenAt);
            if (count > 0) {
                due("tokenAt(0) of " + count, x.tokenAt(0), 0);
                due("tokenAt of the last of " + count, x.tokenAt(count - 1), 0);
            }
        }
        EditedText x = of(" ab  = ");
        int[] wanted = {NONE, 0, 0, NONE, NONE, 1, NONE, NONE};
        for (int p = 0; p < wanted.length; p++) {
            due("tokenAt(" + p + ")", x.tokenAt(p), wanted[p]);
        }
        due("tokenAt(79) of 80 spaces", of(toEighty(" ")).tokenAt(79), NONE);
        x.remove(5, 2);
        due("tokenAt(5) once it is removed", x.tokenAt(5), NONE);
    }

    private static void itemCounts() {
        begin("promise 13: The number of items");
        for (int n = 0; n <= 40; n++) {
            due("items() of " + n, of(many("a;", n)).items(), n);
        }
        due("items() of 40 and no last end", of(many(";a", 40)).items(), 40);
        due("items() of 80 tokens in one", of(toEighty("+")).items(), 1);
        due("items() of none", of(toEighty(";")).items(), 0);
    }

    private static void noItem() {
        begin("promise 14: NONE if there is none");
        for (int count : new int[] {0, 1, 2, 20, 39, 40}) {
            EditedText x = of(many("1;", count));
            dueNone("sort", count, x::sort);
            if (count > 0) {
                due("sort of the last of " + count, x.sort(count - 1), 1);
            }
        }
        EditedText x = of("a;b;");
        x.remove(1, 2);
        due("sort(1) once it is gone", x.sort(1), NONE);
        due("sort(0) of ends alone", of(";;").sort(0), NONE);
    }

    private static void itemOfNone() {
        begin("promise 15: NONE if it ends one, or there is no such token");
        for (int count : new int[] {0, 1, 2, 40, 79, 80}) {
            EditedText x = of(many("+", count));
            dueNone("itemOf", count, x::itemOf);
            if (count > 0) {
                due("itemOf of the last of " + count, x.itemOf(count - 1), 0);
            }
        }
        EditedText x = of("a;b{c}d");
        for (int t = 0; t < 7; t++) {
            due("itemOf(" + t + ")", x.itemOf(t), t % 2 == 0 ? t / 2 : NONE);
        }
        due("itemOf(79) of 80 }", of(toEighty("}")).itemOf(79), NONE);
        x = of(many("a;", 40));
        due("itemOf(78) of 40 items", x.itemOf(78), 39);
        due("itemOf(79) of 40 items", x.itemOf(79), NONE);
        x.remove(1, 1);
        due("itemOf(78) once it ends one", x.itemOf(78), NONE);
    }

    private static void depthNone() {
        begin("promise 16: NONE if there is none");
        for (int count : new int[] {0, 1, 2, 20, 39, 40}) {
            EditedText x = of(many("1;", count));
            dueNone("depth", count, x::depth);
            if (count > 0) {
                due("depth of the last of " + count, x.depth(count - 1), 0);
            }
        }
        EditedText x = of("a;{b;");
        x.remove(2, 3);
        due("depth(1) once it is gone", x.depth(1), NONE);
    }

    private static void depthFromNoneToMost() {
        begin("promise 16: The number of blocks that item i stands in");
        for (int n = 0; n < MOST; n++) {
            due("depth(0) in " + n + " blocks", of(many("{", n) + "a").depth(0), n);
            due("depth(0) behind " + n + " loose }", of(many("}", n) + "a").depth(0), 0);
        }
        due("depth(0) before a {", of("a{").depth(0), 0);
        due("depth(0) before a }", of("{a}").depth(0), 1);
        due("depth(0) behind a }", of("{}a").depth(0), 0);
    }

    private static void knownOfNone() {
        begin("promise 17: false if there is none");
        for (int count : new int[] {0, 1, 2, 20, 39, 40}) {
            EditedText x = of(many("1;", count));
            for (int i : outside(0, count - 1)) {
                due("known(" + i + ") of " + count, x.known(i), false);
            }
            if (count > 0) {
                due("known of the last of " + count, x.known(count - 1), true);
            }
        }
        EditedText x = of("1;1;");
        x.remove(2, 2);
        due("known(1) once it is gone", x.known(1), false);
    }

    private static void valueElseZero() {
        begin("promise 18: The value of item i, if it is known; else 0");
        for (int count : new int[] {0, 1, 2, 20, 39, 40}) {
            EditedText x = of(many("4;", count));
            for (int i : outside(0, count - 1)) {
                due("value(" + i + ") of " + count, x.value(i), 0);
            }
            if (count > 0) {
                due("value of the last of " + count, x.value(count - 1), 4);
            }
        }
        EditedText x = of("4;4;4;");
        x.remove(5, 1);
        due("value(2) once it is wrong", x.value(2), 0);
        x.insert(3, 0);
        due("value(1) once it is wrong", x.value(1), 0);
        x.remove(2, 1);
        due("value(1) once it is unknown", x.value(1), 0);
        x.remove(1, 4);
        due("value(1) once it is gone", x.value(1), 0);
    }

    private static void meaningNone() {
        begin("promise 19: NONE if it is no name in an expression of an item that is not wrong, or means nothing");
        for (int count : new int[] {0, 1, 2, 40, 79, 80}) {
            dueNone("meaning", count, of(many("+", count))::meaning);
        }
        EditedText x = of("a=1;(a+2)*a==a;a");
        int[] wanted = {NONE, NONE, NONE, NONE, NONE, 0, NONE, NONE, NONE, NONE, 0, NONE, 0, NONE, NONE};
        for (int t = 0; t < wanted.length; t++) {
            due("meaning(" + t + ")", x.meaning(t), wanted[t]);
        }
        dueMeaning("a=1;a=2;", 4, NONE);
        dueMeaning("a=1;a a;", 4, NONE);
        dueMeaning("a=1;a a;", 5, NONE);
        dueMeaning("a=1;a{", 4, NONE);
        dueMeaning("a=1;a}", 4, NONE);
        dueMeaning("a=1;a", 4, NONE);
        dueMeaning("a=1;b=a", 6, NONE);
        dueMeaning("a=1;b;", 4, NONE);
        dueMeaning(many("1;", 37) + "a=1;a;", 78, 37);
    }

    private static void usesNone() {
        begin("promise 20: NONE if it is no definition");
        for (String text : new String[] {"", ";", "1;", "a;", "a==1;", "a=1", "a=1{", "a=1}", "a=;", "=1;"}) {
            due("uses(0) of " + text, of(text).uses(0), NONE);
        }
        for (int count : new int[] {0, 1, 2, 19, 20}) {
            EditedText x = of(many("a=1;", count));
            dueNone("uses", count, x::uses);
            if (count > 0) {
                due("uses of the last of " + count, x.uses(count - 1), 0);
            }
        }
        EditedText x = of("a=1;a;");
        x.remove(3, 1);
        due("uses(0) once it is no definition", x.uses(0), NONE);
    }

    private static void usesFromNoneToMost() {
        begin("promise 20: How many names mean item i");
        for (int n = 1; n <= 38; n++) {
            due("uses(0) of " + n, of("a=1;" + many("a+", n - 1) + "a;").uses(0), n);
        }
        due("uses(0) of a definition alone", of("a=1;").uses(0), 0);
        due("uses(0) of a name in a wrong item", of("a=1;a").uses(0), 0);
        due("uses(0) before the next of the name", of("a=1;a=a+a;a;").uses(0), 2);
        due("uses(1) of the next of the name", of("a=1;a=a+a;a;").uses(1), 1);
    }

    private static void looseCounts() {
        begin("promise 21: The number of loose \"}\" and blocks");
        for (int n = 0; n <= MOST; n++) {
            due("loose() of " + n + " {", of(many("{", n)).loose(), n);
            due("loose() of " + n + " }", of(many("}", n)).loose(), n);
            due("loose() of " + n + " } and {", of(many("}", n) + many("{", MOST - n)).loose(), MOST);
            due("loose() of " + n + " { and }", of(many("{", n) + many("}", MOST - n)).loose(),
                Math.abs(MOST - 2 * n));
        }
        due("loose() of brackets", of("(((").loose(), 0);
    }

    private static void wrongCounts() {
        begin("promise 22: The number of wrong items");
        for (int n = 0; n <= 40; n++) {
            due("wrong() of " + n, of(many("=;", n) + many("1;", 40 - n)).wrong(), n);
        }
        due("wrong() of nothing", of("").wrong(), 0);
        due("wrong() of ends", of(toEighty(";")).wrong(), 0);
        due("wrong() of unknown items", of("a;b=a;").wrong(), 0);
        due("wrong() of the last without end", of("1;1").wrong(), 1);
    }

    private static void digestWraps() {
        begin("promise 23: The sum, wrapping, of (i + 1) times the value");
        due("digest() of the greatest", of(MOST_INT_TEXT + ";").digest(), MOST_INT);
        due("digest() of the greatest, second", of("0;" + MOST_INT_TEXT + ";").digest(), -2);
        due("digest() of the greatest and 2", of(MOST_INT_TEXT + ";1;").digest(), LEAST_INT + 1);
        due("digest() of three times the greatest", of("a=" + MOST_INT_TEXT + ";a;").digest(), MOST_INT - 2);
        due("digest() of the least", of(LEAST_INT_TEXT + ";").digest(), LEAST_INT);
        due("digest() of the least, second", of("0;" + LEAST_INT_TEXT + ";").digest(), 0);
        due("digest() of three times the least", of("a=" + LEAST_INT_TEXT + ";a;").digest(), LEAST_INT);
        due("digest() of a number that wraps", of("1" + many("0", 31) + ";").digest(), LEAST_INT);
        due("digest() of 40", of(many("4;", 40)).digest(), 4 * 820);
        due("digest() of nothing", of("").digest(), 0);
    }

    private static void digestLeavesOutTheUnknown() {
        begin("promise 23: over all items i whose value is known");
        due("digest() of wrong items", of("4+;4{4}4").digest(), 0);
        due("digest() of unknown items", of("a;b=a;b;").digest(), 0);
        due("digest() counts their numbers", of("a;4+;4;").digest(), 12);
        due("digest() of the first alone", of("4;a;").digest(), 4);
        due("digest() of ends that end nothing", of(";;4;{;4;").digest(), 12);
        EditedText x = of("4;4;");
        x.remove(3, 1);
        due("digest() once the second is wrong", x.digest(), 4);
    }

    private static void appendIsFullJustIfThereWouldBeMore() {
        begin("promise 24: FULL just if the text would have more than 80 characters (then none is appended)");
        for (int length = 75; length <= MOST; length++) {
            for (int mask = 0; mask < 16; mask++) {
                int[] c = new int[4];
                for (int k = 0; k < 4; k++) {
                    c[k] = (mask >> k & 1) == 1 ? 1 + k : -1;
                }
                int would = length + Integer.bitCount(mask);
                EditedText x = of(many("a", length));
                due("append with mask " + mask + " at " + length, x.append(c[0], c[1], c[2], c[3]),
                    would > MOST ? FULL : would);
                due("length()", x.length(), would > MOST ? length : would);
                due("the begin of the text", textOf(x).substring(0, length), many("a", length));
            }
        }
    }

    private static void appendOfNothing() {
        begin("promise 24: with -1 four times the answer is the length, also if that is 80");
        for (int length = 0; length <= MOST; length++) {
            EditedText x = of(many("b", length));
            due("append of nothing at " + length, x.append(-1, -1, -1, -1), length);
            due("the text", textOf(x), many("b", length));
        }
    }

    private static void insertIsFullAtEighty() {
        begin("promise 24: insert: FULL if the text has 80 characters");
        EditedText x = of(many("c", 79));
        due("insert at 79", x.insert(79, 3), MOST);
        due("insert at 80", x.insert(80, 3), FULL);
        due("insert at 80, at the begin", x.insert(0, 3), FULL);
        due("the text", textOf(x), many("c", 79) + "d");
        x.remove(0, 1);
        due("insert once one is removed", x.insert(0, 3), MOST);
        due("the text", textOf(x), "d" + many("c", 78) + "d");
    }
}
