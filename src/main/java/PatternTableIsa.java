/** An instruction set that is described by bit patterns, and its words of 12 bits. */
public final class PatternTableIsa {
    public static final int BAD_PATTERN = -1;
    public static final int OVERLAP = -2;
    public static final int FULL = -3;
    public static final int NO_PATTERN = -4;
    public static final int BAD_FIELD = -5;
    public static final int BAD_VALUE = -6;
    public static final int BAD_WORD = -7;
    public static final int NONE = -8;

    private static final int WORD_BITS = 12;
    private static final int WORDS = 4096;
    private static final int MAX_PATTERNS = 16;
    private static final int MAX_FIELDS = 3;
    private static final int FIELD_SLOTS = 48;

    private final int[] masks = new int[MAX_PATTERNS];
    private final int[] fixedBits = new int[MAX_PATTERNS];
    private final int[] fieldCounts = new int[MAX_PATTERNS];
    private final int[] fieldLows = new int[FIELD_SLOTS];
    private final int[] fieldSizes = new int[FIELD_SLOTS];
    private final boolean[] fieldSigns = new boolean[FIELD_SLOTS];
    private int patternCount;
    private int begunPattern;
    private int begunWord;

    public PatternTableIsa() {
        patternCount = 0;
        begunPattern = NONE;
        begunWord = 0;
    }

    public int add(int mask, int bits) {
        if (!isWord(mask) || !isWord(bits) || (bits & ~mask) != 0) {
            return BAD_PATTERN;
        }
        if (patternCount >= MAX_PATTERNS) {
            return FULL;
        }
        if (overlapsTable(mask, bits)) {
            return OVERLAP;
        }
        int number = patternCount;
        masks[number] = mask;
        fixedBits[number] = bits;
        // The place may still hold the fields of a pattern that was taken out.
        fieldCounts[number] = 0;
        patternCount = number + 1;
        return number;
    }

    public int field(int pattern, int low, int size, boolean signed) {
        if (!isPattern(pattern)) {
            return NO_PATTERN;
        }
        if (!isStretchOfBits(low, size) || (masks[pattern] & (lowOnes(size) << low)) != 0) {
            return BAD_FIELD;
        }
        int number = fieldCounts[pattern];
        if (number >= MAX_FIELDS) {
            return FULL;
        }
        int slot = slotOf(pattern, number);
        fieldLows[slot] = low;
        fieldSizes[slot] = size;
        fieldSigns[slot] = signed;
        fieldCounts[pattern] = number + 1;
        return number;
    }

    public int dropLast() {
        if (patternCount == 0) {
            return NO_PATTERN;
        }
        patternCount = patternCount - 1;
        // Forgotten here, so that a later pattern with this number is not taken for the begun one.
        if (begunPattern == patternCount) {
            begunPattern = NONE;
        }
        return patternCount;
    }

    public int begin(int pattern) {
        if (!isPattern(pattern)) {
            return NO_PATTERN;
        }
        begunPattern = pattern;
        begunWord = fixedBits[pattern];
        return begunWord;
    }

    public int operand(int field, int value) {
        if (!isPattern(begunPattern)) {
            return NO_PATTERN;
        }
        if (!hasField(begunPattern, field)) {
            return BAD_FIELD;
        }
        int slot = slotOf(begunPattern, field);
        if (!isValueOfField(slot, value)) {
            return BAD_VALUE;
        }
        int low = fieldLows[slot];
        int ones = lowOnes(fieldSizes[slot]);
        begunWord = (begunWord & ~(ones << low)) | ((value & ones) << low);
        return begunWord;
    }

    public int decode(int word) {
        if (!isWord(word)) {
            return BAD_WORD;
        }
        return patternCovering(word);
    }

    public int value(int word, int field) {
        if (!isWord(word)) {
            return 0;
        }
        int pattern = patternCovering(word);
        if (!isPattern(pattern) || !hasField(pattern, field)) {
            return 0;
        }
        int slot = slotOf(pattern, field);
        return readField(slot, word);
    }

    public int holes() {
        int found = 0;
        for (int word = 0; word < WORDS; word++) {
            if (patternCovering(word) == NONE) {
                found++;
            }
        }
        return found;
    }

    public int nextHole(int from) {
        if (!isWord(from)) {
            return BAD_WORD;
        }
        for (int word = from; word < WORDS; word++) {
            if (patternCovering(word) == NONE) {
                return word;
            }
        }
        return NONE;
    }

    public int covered(int pattern, int from, int to) {
        if (!isPattern(pattern)) {
            return NO_PATTERN;
        }
        if (!isWord(from) || !isWord(to)) {
            return BAD_WORD;
        }
        int found = 0;
        for (int word = from; word <= to; word++) {
            if (covers(pattern, word)) {
                found++;
            }
        }
        return found;
    }

    public int nextWord(int pattern, int from) {
        if (!isPattern(pattern)) {
            return NO_PATTERN;
        }
        if (!isWord(from)) {
            return BAD_WORD;
        }
        for (int word = from; word < WORDS; word++) {
            if (covers(pattern, word)) {
                return word;
            }
        }
        return NONE;
    }

    private boolean isPattern(int pattern) {
        return pattern >= 0 && pattern < patternCount;
    }

    private boolean hasField(int pattern, int field) {
        return field >= 0 && field < fieldCounts[pattern];
    }

    private boolean covers(int pattern, int word) {
        return (word & masks[pattern]) == fixedBits[pattern];
    }

    private int patternCovering(int word) {
        for (int pattern = 0; pattern < patternCount; pattern++) {
            if (covers(pattern, word)) {
                return pattern;
            }
        }
        return NONE;
    }

    private boolean overlapsTable(int mask, int bits) {
        for (int pattern = 0; pattern < patternCount; pattern++) {
            // Only a bit that both masks fix, and fix differently, keeps two patterns apart.
            if ((masks[pattern] & mask & (fixedBits[pattern] ^ bits)) == 0) {
                return true;
            }
        }
        return false;
    }

    private boolean isValueOfField(int slot, int value) {
        int size = fieldSizes[slot];
        if (fieldSigns[slot]) {
            int half = 1 << (size - 1);
            return value >= -half && value < half;
        }
        return value >= 0 && value <= lowOnes(size);
    }

    private int readField(int slot, int word) {
        int size = fieldSizes[slot];
        int raw = (word >> fieldLows[slot]) & lowOnes(size);
        boolean negative = fieldSigns[slot] && (raw >> (size - 1)) == 1;
        return negative ? raw - (1 << size) : raw;
    }

    private static boolean isWord(int number) {
        return number >= 0 && number < WORDS;
    }

    private static boolean isStretchOfBits(int low, int size) {
        // low is bounded first, so that the difference below cannot wrap around.
        return low >= 0 && low < WORD_BITS && size >= 1 && size <= WORD_BITS - low;
    }

    private static int lowOnes(int size) {
        return (1 << size) - 1;
    }

    private static int slotOf(int pattern, int field) {
        return pattern * MAX_FIELDS + field;
    }
}
