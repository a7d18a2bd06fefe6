/**
 * Each sentence under "Terms" in the document, in the document's order, with a test of its own.
 * Where a sentence has several parts, each part has one.
 */
public final class TermsTest {
    private static final String ALPHABET = "abcde01234=+*();{} ";
    private static final int MOST = 80;
    private static final int NONE = -3;
    private static final int WRONG = 0;
    private static final int EXPRESSION = 1;
    private static final int DEFINITION = 2;

    private static String sentence = "";
    private static int failures = 0;

    public static void main(String[] args) {
        theText();
        theTokens();
        theItems();
        theGrammar();
        theBlocks();
        theMeanings();
        theValues();
        theCalls();
        theConstants();
        System.out.println(failures == 0 ? "all terms hold" : failures + " answers are not as due");
        if (failures != 0) {
            System.exit(1);
        }
    }

    private static void theText() {
        atMostEightyCharacters();
        letters();
        digits();
        signs();
    }

    private static void theTokens() {
        spacesArePassedOver();
        names();
        numbers();
        equalsSigns();
        otherSigns();
        tokensFromZeroOn();
    }

    private static void theItems() {
        endsOfItems();
        endOfTheText();
        atLeastOneToken();
        itemsFromZeroOn();
        definitions();
        expressionItems();
        wrongItems();
    }

    private static void theGrammar() {
        comparisons();
        sums();
        terms();
        factors();
    }

    private static void theBlocks() {
        blockWithinTheInnermost();
        closesTheInnermost();
        looseEnd();
        looseBlocks();
        blocksOpenWhereItStands();
    }

    private static void theMeanings() {
        nameInTheExpression();
        itemThatIsNotWrong();
        lastDefinition();
        definitionBeforeThisItem();
        sameCharacters();
        blocksOfTheDefinition();
        meansNothing();
    }

    private static void theValues() {
        valueOfANumber();
        valueOfAName();
        valueOfASum();
        valueOfAProduct();
        valueOfAComparison();
        valueOfAnItem();
        unknownIfWrong();
        unknownIfANameMeansNothing();
        unknownThroughADefinition();
    }

    private static void theCalls() {
        noCallThrows();
        refusedCallsChangeNothing();
    }

    private static void theConstants() {
        badArg();
        full();
        none();
    }

    // What the tests are written with

    private static void begin(String words) {
        sentence = words;
    }

    private static void due(String what, long got, long want) {
        if (got != want) {
            fail(what + " answered " + got + ", due is " + want);
        }
    }

    private static void due(String what, boolean got, boolean want) {
        if (got != want) {
            fail(what + " answered " + got + ", due is " + want);
        }
    }

    private static void fail(String words) {
        failures++;
        System.out.println("[" + sentence + "] " + words);
    }

    private static int code(String text, int p) {
        return p < text.length() ? ALPHABET.indexOf(text.charAt(p)) : -1;
    }

    private static EditedText of(String text) {
        EditedText x = new EditedText();
        for (int p = 0; p < text.length(); p += 4) {
            x.append(code(text, p), code(text, p + 1), code(text, p + 2), code(text, p + 3));
        }
        due("length() of " + text, x.length(), text.length());
        return x;
    }

    private static void dueText(EditedText x, String want) {
        due("length() of " + want, x.length(), want.length());
        for (int p = 0; p < want.length(); p++) {
            due("character(" + p + ") of " + want, x.character(p), code(want, p));
        }
    }

    /** For each position of the text the number of its token, "-" for a space, and the kinds. */
    private static void dueTokens(String text, String tokensAt, int... kinds) {
        EditedText x = of(text);
        due("tokens() of \"" + text + "\"", x.tokens(), kinds.length);
        for (int t = 0; t < kinds.length; t++) {
            due("kind(" + t + ") of \"" + text + "\"", x.kind(t), kinds[t]);
            due("start(" + t + ") of \"" + text + "\"", x.start(t), tokensAt.indexOf('0' + t));
        }
        for (int p = 0; p < text.length(); p++) {
            int want = tokensAt.charAt(p) == '-' ? NONE : tokensAt.charAt(p) - '0';
            due("tokenAt(" + p + ") of \"" + text + "\"", x.tokenAt(p), want);
        }
    }

    /** For each position of the text the number of its item, "-" where there is none. */
    private static void dueItems(String text, String itemsAt) {
        EditedText x = of(text);
        int items = 0;
        for (int p = 0; p < text.length(); p++) {
            int want = itemsAt.charAt(p) == '-' ? NONE : itemsAt.charAt(p) - '0';
            due("itemOf the token at " + p + " of \"" + text + "\"", x.itemOf(x.tokenAt(p)), want);
            items = Math.max(items, want + 1);
        }
        due("items() of \"" + text + "\"", x.items(), items);
    }

    private static void dueSorts(String text, int... sorts) {
        EditedText x = of(text);
        due("items() of \"" + text + "\"", x.items(), sorts.length);
        int wrong = 0;
        for (int i = 0; i < sorts.length; i++) {
            due("sort(" + i + ") of \"" + text + "\"", x.sort(i), sorts[i]);
            wrong += sorts[i] == WRONG ? 1 : 0;
        }
        due("wrong() of \"" + text + "\"", x.wrong(), wrong);
    }

    private static void dueExpression(String expression, boolean right) {
        dueSorts(expression + ";", right ? EXPRESSION : WRONG);
        dueSorts("a=" + expression + ";", right ? DEFINITION : WRONG);
        dueSorts("(" + expression + ");", right ? EXPRESSION : WRONG);
    }

    private static void dueDepths(String text, int... depths) {
        EditedText x = of(text);
        due("items() of \"" + text + "\"", x.items(), depths.length);
        for (int i = 0; i < depths.length; i++) {
            due("depth(" + i + ") of \"" + text + "\"", x.depth(i), depths[i]);
        }
    }

    /** For each position of the text the item that its token means, "-" where it means none. */
    private static void dueMeanings(String text, String meaningsAt) {
        EditedText x = of(text);
        for (int p = 0; p < text.length(); p++) {
            int want = meaningsAt.charAt(p) == '-' ? NONE : meaningsAt.charAt(p) - '0';
            due("meaning of the token at " + p + " of \"" + text + "\"", x.meaning(x.tokenAt(p)), want);
        }
    }

    private static void dueValue(String text, int i, int want) {
        EditedText x = of(text);
        due("known(" + i + ") of \"" + text + "\"", x.known(i), true);
        due("value(" + i + ") of \"" + text + "\"", x.value(i), want);
    }

    private static void dueUnknown(String text, int i) {
        EditedText x = of(text);
        due("known(" + i + ") of \"" + text + "\"", x.known(i), false);
        due("value(" + i + ") of \"" + text + "\"", x.value(i), 0);
    }

    // The text

    private static void atMostEightyCharacters() {
        begin("The TEXT is a list of at most 80 CHARACTERS, at positions from 0 on");
        EditedText x = new EditedText();
        StringBuilder all = new StringBuilder();
        for (int n = 0; n < MOST; n++) {
            all.append(ALPHABET.charAt(n % 19));
            due("append number " + n, x.append(n % 19, -1, -1, -1), n + 1);
        }
        dueText(x, all.toString());
        due("append number 80", x.append(0, -1, -1, -1), EditedText.FULL);
        due("character(-1)", x.character(-1), NONE);
        due("character(80)", x.character(MOST), NONE);
    }

    private static void letters() {
        begin("0 to 4, letters");
        for (int c = 0; c <= 4; c++) {
            EditedText x = new EditedText();
            x.append(c, 10, 7, 15);
            x.append(c, 15, -1, -1);
            due("kind(0) of letter " + c, x.kind(0), 0);
            due("sort(0) of letter " + c, x.sort(0), DEFINITION);
            due("value(1) of letter " + c, x.value(1), 2);
            due("insert(1, 4) behind letter " + c, x.insert(1, 4), 7);
            due("meaning(4) where the name is longer", x.meaning(4), NONE);
        }
    }

    private static void digits() {
        begin("5 to 9, the digits 0 to 4 (character 5 + d is the digit d)");
        for (int d = 0; d <= 4; d++) {
            EditedText x = new EditedText();
            x.append(5 + d, 15, 6, 5 + d);
            x.append(15, -1, -1, -1);
            due("kind(0) of digit " + d, x.kind(0), 1);
            due("value(0) of digit " + d, x.value(0), d);
            due("value(1) of digit 1 and " + d, x.value(1), 10 + d);
        }
    }

    private static void signs() {
        begin("10 \"=\", 11 \"+\", 12 \"*\", 13 \"(\", 14 \")\", 15 \";\", 16 \"{\", 17 \"}\", 18 a space");
        EditedText x = new EditedText();
        x.append(16, 0, 10, 8);
        x.append(12, 13, 9, 11);
        x.append(6, 14, 15, 18);
        x.append(17, -1, -1, -1);
        due("items()", x.items(), 1);
        due("sort(0) of {a=3*(4+1); }", x.sort(0), DEFINITION);
        due("value(0) of {a=3*(4+1); }", x.value(0), 15);
        due("depth(0) of {a=3*(4+1); }", x.depth(0), 1);
        due("loose() of {a=3*(4+1); }", x.loose(), 0);
        due("tokenAt(11), the space", x.tokenAt(11), NONE);
        due("tokens()", x.tokens(), 12);
    }

    // The tokens

    private static void spacesArePassedOver() {
        begin("from the begin on, spaces are passed over, and at any other character a token begins, with its KIND");
        dueTokens("", "");
        dueTokens("   ", "---");
        dueTokens(" a ", "-0-", 0);
        dueTokens("a b", "0-1", 0, 0);
        dueTokens("a 1", "0-1", 0, 1);
        dueTokens("1  1", "0--1", 1, 1);
        dueTokens("= =", "0-1", 2, 2);
        dueTokens("ab=1+c;", "0012345", 0, 2, 1, 4, 0, 8);
    }

    private static void names() {
        begin("0, a NAME, a letter with all letters and digits directly behind it");
        dueTokens("a", "0", 0);
        dueTokens("abcde", "00000", 0);
        dueTokens("e01234a", "0000000", 0);
        dueTokens("a4=", "001", 0, 2);
        dueTokens("a1 1a", "00-12", 0, 1, 0);
        dueTokens("a(b)", "0123", 0, 6, 0, 7);
    }

    private static void numbers() {
        begin("1, a NUMBER, a digit with all digits directly behind it");
        dueTokens("0", "0", 1);
        dueTokens("01234", "00000", 1);
        dueTokens("12ab", "0011", 1, 0);
        dueTokens("12a3", "0011", 1, 0);
        dueTokens("4=4", "012", 1, 2, 1);
        dueTokens("1+22", "0122", 1, 4, 1);
    }

    private static void equalsSigns() {
        begin("3, two \"=\"; 2, one \"=\" with none behind");
        dueTokens("=", "0", 2);
        dueTokens("==", "00", 3);
        dueTokens("===", "001", 3, 2);
        dueTokens("====", "0011", 3, 3);
        dueTokens("=====", "00112", 3, 3, 2);
        dueTokens("== =", "00-1", 3, 2);
        dueTokens("=+=", "012", 2, 4, 2);
    }

    private static void otherSigns() {
        begin("4 \"+\", 5 \"*\", 6 \"(\", 7 \")\", 8 \";\", 9 \"{\", 10 \"}\"");
        dueTokens("+*();{}", "0123456", 4, 5, 6, 7, 8, 9, 10);
        dueTokens("++**", "0123", 4, 4, 5, 5);
        dueTokens("(())", "0123", 6, 6, 7, 7);
        dueTokens(";;{{}}", "012345", 8, 8, 9, 9, 10, 10);
    }

    private static void tokensFromZeroOn() {
        begin("Tokens are numbered from 0 on");
        EditedText x = of("ab =1;");
        due("kind(0)", x.kind(0), 0);
        due("kind(3)", x.kind(3), 8);
        due("start(3)", x.start(3), 5);
        due("kind(-1)", x.kind(-1), NONE);
        due("kind(4)", x.kind(4), NONE);
        due("start(4)", x.start(4), NONE);
        due("tokens()", x.tokens(), 4);
    }

    // The items

    private static void endsOfItems() {
        begin("The tokens \";\", \"{\" and \"}\" END what stands before them, back to the one of these three before "
            + "(or the begin)");
        dueItems("a+1;", "000-");
        dueItems("a+1{", "000-");
        dueItems("a+1}", "000-");
        dueItems("1;2{3}4;", "0-1-2-3-");
        dueItems("1 2;3=", "0-0-11");
        dueItems("(1;2)", "00-11");
    }

    private static void endOfTheText() {
        begin("so does the end of the text");
        dueItems("a", "0");
        dueItems("1;a=", "0-11");
        dueItems("1;a= ", "0-11-");
        dueSorts("1;2", EXPRESSION, WRONG);
    }

    private static void atLeastOneToken() {
        begin("What stands there, if it is a token at least, is an ITEM");
        dueItems("", "");
        dueItems("  ", "--");
        dueItems(";", "-");
        dueItems(";{}; ;", "------");
        dueItems(" ; {a} ;", "----0---");
        dueItems("+;=", "0-1");
    }

    private static void itemsFromZeroOn() {
        begin("items are numbered from 0 on");
        EditedText x = of(";a=1;;a;2=");
        due("items()", x.items(), 3);
        due("sort(-1)", x.sort(-1), NONE);
        due("sort(0)", x.sort(0), DEFINITION);
        due("sort(1)", x.sort(1), EXPRESSION);
        due("sort(2)", x.sort(2), WRONG);
        due("sort(3)", x.sort(3), NONE);
    }

    private static void definitions() {
        begin("An item is a DEFINITION if it is ended by \";\" and is a name, \"=\" and an expression");
        dueSorts("a=1;", DEFINITION);
        dueSorts(" a1 = ( b ) ; ", DEFINITION);
        dueSorts("a=b==1;", DEFINITION);
        dueSorts("a=1{a=1}a=1", WRONG, WRONG, WRONG);
        dueSorts("1=1;(a)=1;a b=1;=1;", WRONG, WRONG, WRONG, WRONG);
        dueSorts("a==1;a 1;", EXPRESSION, WRONG);
        dueSorts("a=;a=+;a=b=1;a= =1;", WRONG, WRONG, WRONG, WRONG);
    }

    private static void expressionItems() {
        begin("an EXPRESSION ITEM if it is ended by \";\" and is an expression");
        dueSorts("1;", EXPRESSION);
        dueSorts("a;(a);a+1;a*1;a==1;", EXPRESSION, EXPRESSION, EXPRESSION, EXPRESSION, EXPRESSION);
        dueSorts("1{1}1", WRONG, WRONG, WRONG);
    }

    private static void wrongItems() {
        begin("else it is WRONG");
        dueSorts("=;", WRONG);
        dueSorts("+;*;(;);==;", WRONG, WRONG, WRONG, WRONG, WRONG);
        dueSorts("1 1;a a;1 a;", WRONG, WRONG, WRONG);
        dueSorts("a=1{}1;", WRONG, EXPRESSION);
    }

    // The grammar

    private static void comparisons() {
        begin("expression = sum [ \"==\" sum ]");
        dueExpression("1", true);
        dueExpression("1+a==a*1", true);
        dueExpression("1==1==1", false);
        dueExpression("(1==1)==1", true);
        dueExpression("1==(1==1)", true);
        dueExpression("(1==1)==(1==1)", true);
        dueExpression("(1==1==1)==1", false);
        dueExpression("1==", false);
        dueExpression("==1", false);
        dueExpression("1=1", false);
    }

    private static void sums() {
        begin("sum = term { \"+\" term }");
        dueExpression("1+a", true);
        dueExpression("1+a+1+a", true);
        dueExpression("1+", false);
        dueExpression("+1", false);
        dueExpression("1++1", false);
        dueExpression("1+*1", false);
        dueExpression("1+==1", false);
    }

    private static void terms() {
        begin("term = factor { \"*\" factor }");
        dueExpression("1*a", true);
        dueExpression("1*a*1*a", true);
        dueExpression("1*", false);
        dueExpression("*1", false);
        dueExpression("1**1", false);
        dueExpression("1*+1", false);
        dueExpression("1*==1", false);
    }

    private static void factors() {
        begin("factor = name | number | \"(\" expression \")\"");
        dueExpression("a", true);
        dueExpression("10", true);
        dueExpression("(a)", true);
        dueExpression("((1+a)*(1))", true);
        dueExpression("(1==1)*a", true);
        dueExpression("()", false);
        dueExpression("(", false);
        dueExpression(")", false);
        dueExpression("(1", false);
        dueExpression("1)", false);
        dueExpression("(1))", false);
        dueExpression("((1)", false);
        dueExpression(")1(", false);
        dueSorts("1)*(1;", WRONG);
        dueExpression("(1)(1)", false);
        dueExpression("1(1)", false);
        dueExpression("(1)1", false);
        dueExpression("(1+)", false);
    }

    // The blocks

    private static void blockWithinTheInnermost() {
        begin("a \"{\" opens a block within the innermost one that is open");
        dueDepths("1;{1;{1;{1;", 0, 1, 2, 3);
        dueDepths("{1;}{1;}", 1, 1);
        dueMeanings("{a=1;{b=2;a+b;", "----------0-1-");
    }

    private static void closesTheInnermost() {
        begin("a \"}\" closes the innermost open one");
        dueDepths("{{1;}1;}1;", 2, 1, 0);
        dueDepths("{{1;}{1;}1;}1;", 2, 2, 1, 0);
        dueMeanings("{a=1;{b=2;}a+b;", "-----------0---");
        due("loose() of {{}}", of("{{}}").loose(), 0);
    }

    private static void looseEnd() {
        begin("if none is open it is LOOSE");
        due("loose() of }", of("}").loose(), 1);
        due("loose() of }}", of("}}").loose(), 2);
        due("loose() of {}}", of("{}}").loose(), 1);
        due("loose() of }{}", of("}{}").loose(), 1);
        dueDepths("}1;{1;}}1;{1;", 0, 1, 0, 1);
        dueMeanings("a=1;}a;", "-----0-");
    }

    private static void looseBlocks() {
        begin("Blocks still open at the end of the text are LOOSE too");
        due("loose() of {", of("{").loose(), 1);
        due("loose() of {{}", of("{{}").loose(), 1);
        due("loose() of {{", of("{{").loose(), 2);
        due("loose() of }{", of("}{").loose(), 2);
        due("loose() of 1;", of("1;").loose(), 0);
        due("loose() of the empty text", of("").loose(), 0);
    }

    private static void blocksOpenWhereItStands() {
        begin("An item stands in the blocks that are open where it stands");
        dueDepths("1{2}3", 0, 1, 0);
        dueDepths("1;{1;2{3}4}1", 0, 1, 1, 2, 1, 0);
        dueDepths("{}{}1;", 0);
        dueDepths("{{1", 2);
    }

    // The meanings

    private static void nameInTheExpression() {
        begin("A name in the expression");
        dueMeanings("a=1;a;", "----0-");
        dueMeanings("a=1;(a+2*a)==a;", "-----0---0---0-");
        dueMeanings("ab=1;ab;", "-----00-");
        dueMeanings("a=1;a=a;", "------0-");
        dueMeanings("a=1;b=a+b;", "------0---");
    }

    private static void itemThatIsNotWrong() {
        begin("of an item that is not wrong");
        dueMeanings("a=1;a", "-----");
        dueMeanings("a=1;a{a}a+;", "-----------");
        dueMeanings("a=1;a=a=1;", "----------");
        dueMeanings("a=1;a a;", "--------");
    }

    private static void lastDefinition() {
        begin("MEANS the last definition");
        dueMeanings("a=1;a=2;a;", "--------1-");
        dueMeanings("a=1;b=2;a+b;", "--------0-1-");
        dueMeanings("a=1;a=2;b=3;a;", "------------1-");
        dueMeanings("a=1;a==2;a=;a;", "----0-------0-");
        dueMeanings("a=1;a=2 a;", "----------");
        dueMeanings("a=1;a=2{}a;", "---------0-");
    }

    private static void definitionBeforeThisItem() {
        begin("before this item");
        dueMeanings("a;a=1;", "------");
        dueMeanings("a=a;", "----");
        dueMeanings("a;a=1;a;", "------1-");
        dueMeanings("a=b;b=a;", "------0-");
    }

    private static void sameCharacters() {
        begin("of the same name (the same characters)");
        dueMeanings("a=1;b;", "------");
        dueMeanings("ab=1;a;b;abb;ba;ab;", "----------------00-");
        dueMeanings("a=1;a1=2;a;a1;", "---------0-11-");
        dueMeanings("a1=1;a10;a0;a1;", "------------00-");
    }

    private static void blocksOfTheDefinition() {
        begin("that stands in blocks all of which the item stands in");
        dueMeanings("{a=1;a;}a;", "-----0----");
        dueMeanings("a=1;{a;{a;}}a;", "-----0--0---0-");
        dueMeanings("a=1;{a=2;a;}a;", "---------1--0-");
        dueMeanings("{a=1;}{a;}", "----------");
        dueMeanings("{a=1;{a;}a;}", "------0--0--");
        dueMeanings("{{a=1;}a;{a;}}", "--------------");
    }

    private static void meansNothing() {
        begin("if there is none it means nothing");
        dueMeanings("a;", "--");
        dueMeanings("b=1;a+b;", "------0-");
        dueUnknown("a;", 0);
        due("uses(0) of b=1;a;", of("b=1;a;").uses(0), 0);
    }

    // The values

    private static void valueOfANumber() {
        begin("a number is its digits read with base 10, wrapping as ints do");
        dueValue("0;", 0, 0);
        dueValue("1234;", 0, 1234);
        dueValue("0040;", 0, 40);
        dueValue("2142424242;", 0, 2142424242);
        dueValue("2200000000;", 0, (int) 2200000000L);
        dueValue("4444444444;", 0, (int) 4444444444L);
        dueValue("10000000000;", 0, (int) 10000000000L);
    }

    private static void valueOfAName() {
        begin("a name has the value of the definition that it means");
        dueValue("a=12;a;", 1, 12);
        dueValue("a=12;b=a;b;", 2, 12);
        dueValue("a=1;a=2;a;", 2, 2);
        dueValue("a=1;{a=2;a;}a;", 2, 2);
        dueValue("a=1;{a=2;a;}a;", 3, 1);
        dueValue("a=1;a=a+a;a;", 2, 2);
    }

    private static void valueOfASum() {
        begin("+ and * add and multiply, wrapping: +");
        dueValue("1+2;", 0, 3);
        dueValue("1+2+3+4;", 0, 10);
        dueValue("2*3+4;", 0, 10);
        dueValue("2+3*4;", 0, 14);
        dueValue("2142424242+2142424242;", 0, 2142424242 + 2142424242);
    }

    private static void valueOfAProduct() {
        begin("+ and * add and multiply, wrapping: *");
        dueValue("2*3;", 0, 6);
        dueValue("2*3*4;", 0, 24);
        dueValue("0*3;", 0, 0);
        dueValue("(1+2)*(3+4);", 0, 21);
        dueValue("2*(3+4*(1+1))+1;", 0, 23);
        dueValue("2142424242*2142424242;", 0, 2142424242 * 2142424242);
    }

    private static void valueOfAComparison() {
        begin("== gives 1 if both are the same, else 0");
        dueValue("2==2;", 0, 1);
        dueValue("2==3;", 0, 0);
        dueValue("3==2;", 0, 0);
        dueValue("1+2*3==3+4;", 0, 1);
        dueValue("1+2*3==1;", 0, 0);
        dueValue("(2==2)+(2==2);", 0, 2);
        dueValue("(1==2)==(2==1);", 0, 1);
        dueValue("2+(3==3)*4;", 0, 6);
        dueValue("3==3;3;", 1, 3);
        dueValue("(3==3)*(3);", 0, 3);
        dueValue("0==1024*1024*1024*4;", 0, 1);
    }

    private static void valueOfAnItem() {
        begin("An item's value is that of its expression");
        dueValue("a=3;", 0, 3);
        dueValue("3;", 0, 3);
        dueValue("a=3;b=a*a+1;a==b;b==10;", 1, 10);
        dueValue("a=3;b=a*a+1;a==b;b==10;", 2, 0);
        dueValue("a=3;b=a*a+1;a==b;b==10;", 3, 1);
    }

    private static void unknownIfWrong() {
        begin("it is UNKNOWN if the item is wrong");
        dueUnknown("1", 0);
        dueUnknown("1{2}", 0);
        dueUnknown("1{2}", 1);
        dueUnknown("1+;", 0);
        dueUnknown("a=1", 0);
        dueValue("1+;2;", 1, 2);
    }

    private static void unknownIfANameMeansNothing() {
        begin("or a name in it means nothing");
        dueUnknown("a;", 0);
        dueUnknown("0*a;", 0);
        dueUnknown("a==a;", 0);
        dueUnknown("b=1;b+a;", 1);
        dueUnknown("b=1;a+b;", 1);
        dueUnknown("a=a;", 0);
        dueUnknown("{a=1;}a;", 1);
        dueValue("a=1;", 0, 1);
    }

    private static void unknownThroughADefinition() {
        begin("or a definition whose value is unknown");
        dueUnknown("a=b;a;", 1);
        dueUnknown("a=b;c=a;c;", 2);
        dueUnknown("a=1;a=b;a;", 2);
        dueUnknown("a=b;0*a;", 1);
        dueValue("a=b;a=1;a;", 2, 1);
        dueValue("a=b;c=1;c;", 2, 1);
    }

    // The calls and the constants

    private static void noCallThrows() {
        begin("No call ever throws");
        int[] edges = {Integer.MIN_VALUE, -81, -4, -3, -2, -1, 0, 1, 79, 80, 81, Integer.MAX_VALUE};
        for (String part : new String[] {"", "a", "1", "=", "(", ")", ";", "{", "}", "a;", "a=1;", "{a}", "(1)+"}) {
            for (int edge : edges) {
                askAndEdit(of(part.repeat(MOST).substring(0, part.isEmpty() ? 0 : MOST)), edge);
            }
        }
    }

    private static void askAndEdit(EditedText x, int edge) {
        try {
            x.insert(edge, edge);
            x.append(edge, edge, edge, edge);
            x.remove(edge, edge);
            x.rename(edge, edge);
            x.insert(edge, 0);
            x.remove(edge, 1);
            x.rename(edge, 0);
            ask(x, edge);
            x.clear();
            ask(x, edge);
        } catch (RuntimeException | Error thrown) {
            fail("a call with " + edge + " throws " + thrown);
        }
    }

    private static void ask(EditedText x, int edge) {
        x.character(edge);
        x.kind(edge);
        x.start(edge);
        x.tokenAt(edge);
        x.sort(edge);
        x.itemOf(edge);
        x.depth(edge);
        x.known(edge);
        x.value(edge);
        x.meaning(edge);
        x.uses(edge);
    }

    private static void refusedCallsChangeNothing() {
        begin("A refused call answers the code named and changes nothing");
        String text = "a=1;a;";
        EditedText x = of(text);
        due("insert(7, 0)", x.insert(7, 0), EditedText.BAD_ARG);
        due("insert(0, 19)", x.insert(0, 19), EditedText.BAD_ARG);
        due("append(0, 1, 2, 19)", x.append(0, 1, 2, 19), EditedText.BAD_ARG);
        due("remove(0, 7)", x.remove(0, 7), EditedText.BAD_ARG);
        due("rename(0, 5)", x.rename(0, 5), EditedText.BAD_ARG);
        due("rename(1, 1)", x.rename(1, 1), EditedText.NONE);
        dueText(x, text);
        due("value(1)", x.value(1), 1);
        String most = "a=1;".repeat(20);
        x = of(most);
        due("insert(80, 0)", x.insert(MOST, 0), EditedText.FULL);
        due("insert(0, 0)", x.insert(0, 0), EditedText.FULL);
        due("append(-1, 0, -1, -1)", x.append(-1, 0, -1, -1), EditedText.FULL);
        dueText(x, most);
        due("items()", x.items(), 20);
    }

    private static void badArg() {
        begin("BAD_ARG = -1: An argument is out of its range");
        due("BAD_ARG", EditedText.BAD_ARG, -1);
        EditedText x = of("a=1;");
        due("insert(-1, 0)", x.insert(-1, 0), -1);
        due("insert(0, -1)", x.insert(0, -1), -1);
        due("append(-2, 0, 0, 0)", x.append(-2, 0, 0, 0), -1);
        due("remove(5, 0)", x.remove(5, 0), -1);
        due("remove(0, -1)", x.remove(0, -1), -1);
        due("rename(0, -1)", x.rename(0, -1), -1);
    }

    private static void full() {
        begin("FULL = -2: The text has 80 characters, or would have more");
        due("FULL", EditedText.FULL, -2);
        EditedText x = of("a".repeat(MOST - 1));
        due("append of two where one is free", x.append(0, 0, -1, -1), -2);
        due("append of one where one is free", x.append(-1, 0, -1, -1), MOST);
        due("append of one where none is free", x.append(-1, 0, -1, -1), -2);
        due("insert where none is free", x.insert(0, 0), -2);
    }

    private static void none() {
        begin("NONE = -3: There is no such thing");
        due("NONE", EditedText.NONE, -3);
        EditedText x = of("1; ");
        due("rename(0, 0)", x.rename(0, 0), -3);
        due("character(3)", x.character(3), -3);
        due("kind(2)", x.kind(2), -3);
        due("start(2)", x.start(2), -3);
        due("tokenAt(2)", x.tokenAt(2), -3);
        due("sort(1)", x.sort(1), -3);
        due("itemOf(1)", x.itemOf(1), -3);
        due("depth(1)", x.depth(1), -3);
        due("meaning(0)", x.meaning(0), -3);
        due("uses(0)", x.uses(0), -3);
    }
}
