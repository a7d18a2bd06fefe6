/**
 * A text of a small language that is edited character by character. Every edit reads the
 * whole text anew, so that a question only looks up what the last edit found.
 */
public final class EditedText {
    public static final int BAD_ARG = -1;
    public static final int FULL = -2;
    public static final int NONE = -3;

    private static final int MOST_CHARACTERS = 80;

    /** Block 0 is the text itself, and the level 0 of brackets is the expression itself. */
    private static final int MOST_NESTED = MOST_CHARACTERS + 1;

    private static final int NO_CHARACTER = -1;
    private static final int LAST_LETTER = 4;
    private static final int DIGIT_ZERO = 5;
    private static final int LAST_DIGIT = 9;
    private static final int EQUALS_SIGN = 10;
    private static final int PLUS_SIGN = 11;
    private static final int SPACE = 18;
    private static final int LAST_CHARACTER = 18;

    private static final int NAME = 0;
    private static final int NUMBER = 1;
    private static final int ASSIGN = 2;
    private static final int SAME = 3;
    private static final int PLUS = 4;
    private static final int TIMES = 5;
    private static final int OPEN_BRACKET = 6;
    private static final int CLOSE_BRACKET = 7;
    private static final int SEMICOLON = 8;
    private static final int OPEN_BLOCK = 9;
    private static final int CLOSE_BLOCK = 10;

    private static final int WRONG = 0;
    private static final int EXPRESSION = 1;
    private static final int DEFINITION = 2;

    private final int[] text = new int[MOST_CHARACTERS];
    private int size;
    private final int[] characterToken = new int[MOST_CHARACTERS];

    private int tokenCount;
    private final int[] tokenKind = new int[MOST_CHARACTERS];
    private final int[] tokenStart = new int[MOST_CHARACTERS];
    private final int[] tokenEnd = new int[MOST_CHARACTERS];
    private final int[] tokenItem = new int[MOST_CHARACTERS];
    private final int[] tokenMeaning = new int[MOST_CHARACTERS];

    private int itemCount;
    private final int[] itemFirst = new int[MOST_CHARACTERS];
    private final int[] itemEnd = new int[MOST_CHARACTERS];
    private final int[] itemSort = new int[MOST_CHARACTERS];
    private final int[] itemDepth = new int[MOST_CHARACTERS];
    private final int[] itemBlock = new int[MOST_CHARACTERS];
    private final int[] itemUses = new int[MOST_CHARACTERS];
    private final boolean[] itemKnown = new boolean[MOST_CHARACTERS];
    private final int[] itemValue = new int[MOST_CHARACTERS];

    private int blockCount;
    private final int[] blockEnd = new int[MOST_NESTED];
    private int openCount;
    private final int[] openBlocks = new int[MOST_NESTED];
    private int looseCount;

    private final boolean[] levelCompares = new boolean[MOST_NESTED];
    private final int[] levelLeft = new int[MOST_NESTED];
    private final int[] levelSum = new int[MOST_NESTED];
    private final int[] levelProduct = new int[MOST_NESTED];

    public EditedText() {
        // All fields begin as 0, which is what reading the empty text would leave in them.
    }

    public int insert(int p, int c) {
        if (c < 0 || c > LAST_CHARACTER || p < 0 || p > size) {
            return BAD_ARG;
        }
        if (size >= MOST_CHARACTERS) {
            return FULL;
        }
        for (int q = size; q > p; q--) {
            text[q] = text[q - 1];
        }
        text[p] = c;
        size++;
        readText();
        return size;
    }

    public int append(int a, int b, int c, int d) {
        if (!mayAppend(a) || !mayAppend(b) || !mayAppend(c) || !mayAppend(d)) {
            return BAD_ARG;
        }
        int more = places(a) + places(b) + places(c) + places(d);
        if (size + more > MOST_CHARACTERS) {
            return FULL;
        }
        putLast(a);
        putLast(b);
        putLast(c);
        putLast(d);
        readText();
        return size;
    }

    public int remove(int p, int n) {
        if (p < 0 || p > size || n < 0 || n > size - p) {
            return BAD_ARG;
        }
        for (int q = p + n; q < size; q++) {
            text[q - n] = text[q];
        }
        size -= n;
        readText();
        return size;
    }

    public int rename(int i, int c) {
        if (c < 0 || c > LAST_LETTER) {
            return BAD_ARG;
        }
        if (!isDefinition(i)) {
            return NONE;
        }
        int replaced = itemUses[i] + 1;
        replaceNames(i, c);
        readText();
        return replaced;
    }

    public void clear() {
        size = 0;
        readText();
    }

    public int length() {
        return size;
    }

    public int character(int p) {
        return isPosition(p) ? text[p] : NONE;
    }

    public int tokens() {
        return tokenCount;
    }

    public int kind(int t) {
        return isToken(t) ? tokenKind[t] : NONE;
    }

    public int start(int t) {
        return isToken(t) ? tokenStart[t] : NONE;
    }

    public int tokenAt(int p) {
        return isPosition(p) ? characterToken[p] : NONE;
    }

    public int items() {
        return itemCount;
    }

    public int sort(int i) {
        return isItem(i) ? itemSort[i] : NONE;
    }

    public int itemOf(int t) {
        return isToken(t) ? tokenItem[t] : NONE;
    }

    public int depth(int i) {
        return isItem(i) ? itemDepth[i] : NONE;
    }

    public boolean known(int i) {
        return isItem(i) && itemKnown[i];
    }

    public int value(int i) {
        return isItem(i) && itemKnown[i] ? itemValue[i] : 0;
    }

    public int meaning(int t) {
        return isToken(t) ? tokenMeaning[t] : NONE;
    }

    public int uses(int i) {
        return isDefinition(i) ? itemUses[i] : NONE;
    }

    public int loose() {
        return looseCount;
    }

    public int wrong() {
        int count = 0;
        for (int i = 0; i < itemCount; i++) {
            if (itemSort[i] == WRONG) {
                count++;
            }
        }
        return count;
    }

    public int digest() {
        int sum = 0;
        for (int i = 0; i < itemCount; i++) {
            if (itemKnown[i]) {
                sum += (i + 1) * itemValue[i];
            }
        }
        return sum;
    }

    private boolean isPosition(int p) {
        return p >= 0 && p < size;
    }

    private boolean isToken(int t) {
        return t >= 0 && t < tokenCount;
    }

    private boolean isItem(int i) {
        return i >= 0 && i < itemCount;
    }

    private boolean isDefinition(int i) {
        return isItem(i) && itemSort[i] == DEFINITION;
    }

    private boolean mayAppend(int c) {
        return c == NO_CHARACTER || (c >= 0 && c <= LAST_CHARACTER);
    }

    private int places(int c) {
        return c == NO_CHARACTER ? 0 : 1;
    }

    private void putLast(int c) {
        if (c != NO_CHARACTER && size < MOST_CHARACTERS) {
            text[size] = c;
            size++;
        }
    }

    /** The new names are never longer than the old ones, so the text can be rewritten in place. */
    private void replaceNames(int i, int c) {
        int kept = 0;
        for (int p = 0; p < size; p++) {
            int t = characterToken[p];
            boolean replaced = t != NONE && (t == itemFirst[i] || tokenMeaning[t] == i);
            if (!replaced) {
                text[kept] = text[p];
                kept++;
            } else if (p == tokenStart[t]) {
                text[kept] = c;
                kept++;
            }
        }
        size = kept;
    }

    private void readText() {
        readTokens();
        readItems();
        sortItems();
        findMeanings();
        findValues();
    }

    private void readTokens() {
        tokenCount = 0;
        for (int p = 0; p < size; p++) {
            if (text[p] == SPACE) {
                characterToken[p] = NONE;
            } else if (continuesToken(p)) {
                continueToken(p);
            } else {
                beginToken(p);
            }
        }
    }

    private boolean continuesToken(int p) {
        if (p == 0 || characterToken[p - 1] == NONE) {
            return false;
        }
        int c = text[p];
        switch (tokenKind[characterToken[p - 1]]) {
            case NAME:
                return c <= LAST_DIGIT;
            case NUMBER:
                return c >= DIGIT_ZERO && c <= LAST_DIGIT;
            case ASSIGN:
                return c == EQUALS_SIGN;
            default:
                return false;
        }
    }

    private void continueToken(int p) {
        int t = characterToken[p - 1];
        if (tokenKind[t] == ASSIGN) {
            tokenKind[t] = SAME;
        }
        tokenEnd[t] = p + 1;
        characterToken[p] = t;
    }

    private void beginToken(int p) {
        tokenKind[tokenCount] = kindBegunBy(text[p]);
        tokenStart[tokenCount] = p;
        tokenEnd[tokenCount] = p + 1;
        characterToken[p] = tokenCount;
        tokenCount++;
    }

    private int kindBegunBy(int c) {
        if (c <= LAST_LETTER) {
            return NAME;
        }
        if (c <= LAST_DIGIT) {
            return NUMBER;
        }
        if (c == EQUALS_SIGN) {
            return ASSIGN;
        }
        // From "+" on, the characters and their kinds stand in the same order.
        return c - PLUS_SIGN + PLUS;
    }

    private void readItems() {
        itemCount = 0;
        looseCount = 0;
        blockCount = 0;
        blockEnd[0] = tokenCount;
        openCount = 0;
        openBlocks[0] = 0;
        int first = 0;
        for (int t = 0; t < tokenCount; t++) {
            if (tokenKind[t] < SEMICOLON) {
                tokenItem[t] = itemCount;
            } else {
                tokenItem[t] = NONE;
                addItem(first, t);
                openOrCloseBlock(t);
                first = t + 1;
            }
        }
        addItem(first, tokenCount);
        looseCount += openCount;
    }

    private void addItem(int first, int end) {
        if (first < end) {
            itemFirst[itemCount] = first;
            itemEnd[itemCount] = end;
            itemDepth[itemCount] = openCount;
            itemBlock[itemCount] = openBlocks[openCount];
            itemCount++;
        }
    }

    private void openOrCloseBlock(int t) {
        if (tokenKind[t] == OPEN_BLOCK) {
            blockCount++;
            blockEnd[blockCount] = tokenCount;
            openCount++;
            openBlocks[openCount] = blockCount;
        } else if (tokenKind[t] == CLOSE_BLOCK && openCount == 0) {
            looseCount++;
        } else if (tokenKind[t] == CLOSE_BLOCK) {
            blockEnd[openBlocks[openCount]] = t;
            openCount--;
        }
    }

    private void sortItems() {
        for (int i = 0; i < itemCount; i++) {
            itemSort[i] = sortBetween(itemFirst[i], itemEnd[i]);
        }
    }

    private int sortBetween(int first, int end) {
        if (end >= tokenCount || tokenKind[end] != SEMICOLON) {
            return WRONG;
        }
        if (isExpression(first, end)) {
            return EXPRESSION;
        }
        // The token at end is there, so first + 1 is a token too.
        boolean defines = tokenKind[first] == NAME && tokenKind[first + 1] == ASSIGN;
        return defines && isExpression(first + 2, end) ? DEFINITION : WRONG;
    }

    /** Factors and what stands between them take turns; a level of brackets may compare once. */
    private boolean isExpression(int first, int end) {
        int level = 0;
        boolean factorIsDue = true;
        levelCompares[0] = false;
        for (int t = first; t < end; t++) {
            int k = tokenKind[t];
            if (factorIsDue && k == OPEN_BRACKET) {
                level++;
                levelCompares[level] = false;
            } else if (factorIsDue && (k == NAME || k == NUMBER)) {
                factorIsDue = false;
            } else if (!factorIsDue && k == CLOSE_BRACKET && level > 0) {
                level--;
            } else if (!factorIsDue && (k == PLUS || k == TIMES)) {
                factorIsDue = true;
            } else if (!factorIsDue && k == SAME && !levelCompares[level]) {
                levelCompares[level] = true;
                factorIsDue = true;
            } else {
                return false;
            }
        }
        return !factorIsDue && level == 0;
    }

    private int expressionStart(int i) {
        return itemSort[i] == DEFINITION ? itemFirst[i] + 2 : itemFirst[i];
    }

    private void findMeanings() {
        for (int t = 0; t < tokenCount; t++) {
            tokenMeaning[t] = NONE;
        }
        for (int i = 0; i < itemCount; i++) {
            itemUses[i] = 0;
            if (itemSort[i] != WRONG) {
                findMeaningsIn(i);
            }
        }
    }

    private void findMeaningsIn(int i) {
        for (int t = expressionStart(i); t < itemEnd[i]; t++) {
            if (tokenKind[t] == NAME) {
                int d = definitionMeant(t, i);
                tokenMeaning[t] = d;
                if (d != NONE) {
                    itemUses[d]++;
                }
            }
        }
    }

    private int definitionMeant(int t, int i) {
        for (int d = i - 1; d >= 0; d--) {
            // A block that was open at d and has not ended before t is open at t too.
            boolean reaches = itemSort[d] == DEFINITION && blockEnd[itemBlock[d]] > t;
            if (reaches && isSameName(itemFirst[d], t)) {
                return d;
            }
        }
        return NONE;
    }

    private boolean isSameName(int t, int u) {
        int width = tokenEnd[t] - tokenStart[t];
        if (tokenEnd[u] - tokenStart[u] != width) {
            return false;
        }
        for (int k = 0; k < width; k++) {
            if (text[tokenStart[t] + k] != text[tokenStart[u] + k]) {
                return false;
            }
        }
        return true;
    }

    /** A name means an item before its own, so each item finds the values that it needs. */
    private void findValues() {
        for (int i = 0; i < itemCount; i++) {
            itemKnown[i] = itemSort[i] != WRONG && namesAreKnown(i);
            itemValue[i] = itemKnown[i] ? expressionValue(i) : 0;
        }
    }

    private boolean namesAreKnown(int i) {
        for (int t = expressionStart(i); t < itemEnd[i]; t++) {
            if (tokenKind[t] == NAME) {
                int d = tokenMeaning[t];
                if (d == NONE || !itemKnown[d]) {
                    return false;
                }
            }
        }
        return true;
    }

    /** Asked only where isExpression holds and all names are known, so the brackets match. */
    private int expressionValue(int i) {
        int level = 0;
        openLevel(level);
        for (int t = expressionStart(i); t < itemEnd[i]; t++) {
            switch (tokenKind[t]) {
                case NAME:
                    levelProduct[level] *= meantValue(t);
                    break;
                case NUMBER:
                    levelProduct[level] *= numberValue(t);
                    break;
                case PLUS:
                    levelSum[level] += levelProduct[level];
                    levelProduct[level] = 1;
                    break;
                case SAME:
                    compareWithNext(level);
                    break;
                case OPEN_BRACKET:
                    level++;
                    openLevel(level);
                    break;
                case CLOSE_BRACKET:
                    // Brackets match, so this always holds; it keeps the index safe by these lines alone.
                    if (level > 0) {
                        level--;
                        levelProduct[level] *= levelValue(level + 1);
                    }
                    break;
                default:
                    // "*" asks for nothing: each factor is multiplied in where it stands.
                    break;
            }
        }
        return levelValue(0);
    }

    private void openLevel(int level) {
        levelCompares[level] = false;
        levelSum[level] = 0;
        levelProduct[level] = 1;
    }

    private void compareWithNext(int level) {
        levelLeft[level] = levelSum[level] + levelProduct[level];
        levelCompares[level] = true;
        levelSum[level] = 0;
        levelProduct[level] = 1;
    }

    private int levelValue(int level) {
        int sum = levelSum[level] + levelProduct[level];
        if (!levelCompares[level]) {
            return sum;
        }
        return levelLeft[level] == sum ? 1 : 0;
    }

    private int meantValue(int t) {
        int d = tokenMeaning[t];
        return isItem(d) ? itemValue[d] : 0;
    }

    private int numberValue(int t) {
        int number = 0;
        for (int p = tokenStart[t]; p < tokenEnd[t]; p++) {
            number = number * 10 + (text[p] - DIGIT_ZERO);
        }
        return number;
    }
}
