/** For each promise of the document: ordinary inputs, the edges that it names, and wrong inputs. */
public final class PromisesTest {
    private static final int BAD_PATTERN = -1;
    private static final int OVERLAP = -2;
    private static final int FULL = -3;
    private static final int NO_PATTERN = -4;
    private static final int BAD_FIELD = -5;
    private static final int BAD_VALUE = -6;
    private static final int BAD_WORD = -7;
    private static final int NONE = -8;

    private static final int MIN = Integer.MIN_VALUE;
    private static final int MAX = Integer.MAX_VALUE;
    private static final int[] NO_WORDS = {-1, 4096, MIN, MAX};

    private static int wrong = 0;

    private static void due(String call, int got, int want) {
        if (got != want) {
            wrong++;
            System.out.println(call + " answered " + got + ", due is " + want);
        }
    }

    public static void main(String[] args) {
        newObject();
        newObjectsAreApart();
        addOrdinary();
        addBadPattern();
        addOverlap();
        addFull();
        fieldOrdinary();
        fieldWrong();
        fieldFull();
        dropLast();
        dropLastForgetsFields();
        begin();
        operandUnsigned();
        operandSigned();
        operandSharedBits();
        operandWrong();
        operandAfterDrop();
        operandAndLaterChanges();
        decode();
        value();
        holes();
        nextHole();
        covered();
        nextWord();
        orderOfTests();
        System.out.println(wrong == 0 ? "all answers are as due" : wrong + " answers are not as due");
        if (wrong != 0) {
            System.exit(1);
        }
    }

    // A full table: pattern n covers the 256 words from 256 * n on.
    private static PatternTableIsa sixteen() {
        PatternTableIsa x = new PatternTableIsa();
        for (int n = 0; n < 16; n++) {
            due("1-16: add(0xF00, " + (n << 8) + ")", x.add(0xF00, n << 8), n);
        }
        return x;
    }

    private static void newObject() {
        PatternTableIsa x = new PatternTableIsa();
        due("1: holes()", x.holes(), 4096);
        due("1: nextHole(0)", x.nextHole(0), 0);
        due("1: decode(0)", x.decode(0), NONE);
        due("1: decode(4095)", x.decode(4095), NONE);
        due("1: value(0, 0)", x.value(0, 0), 0);
        due("1: begin(0)", x.begin(0), NO_PATTERN);
        due("1: operand(0, 0)", x.operand(0, 0), NO_PATTERN);
        due("1: field(0, 0, 1, false)", x.field(0, 0, 1, false), NO_PATTERN);
        due("1: covered(0, 0, 4095)", x.covered(0, 0, 4095), NO_PATTERN);
        due("1: nextWord(0, 0)", x.nextWord(0, 0), NO_PATTERN);
        due("1: dropLast()", x.dropLast(), NO_PATTERN);
    }

    private static void newObjectsAreApart() {
        PatternTableIsa x = new PatternTableIsa();
        x.add(0, 0);
        PatternTableIsa y = new PatternTableIsa();
        due("1: holes() of a second object", y.holes(), 4096);
        due("1: holes() of the first object", x.holes(), 0);
    }

    private static void addOrdinary() {
        PatternTableIsa x = new PatternTableIsa();
        due("2: add(4095, 4095)", x.add(4095, 4095), 0);
        due("2: add(4095, 0)", x.add(4095, 0), 1);
        due("2: add(0x801, 0x800)", x.add(0x801, 0x800), 2);
        due("2: decode(4095)", x.decode(4095), 0);
        due("2: decode(0)", x.decode(0), 1);
        due("2: decode(0x8F0)", x.decode(0x8F0), 2);
        due("2: a pattern begins without fields", x.value(0x8F0, 0), 0);
        PatternTableIsa all = new PatternTableIsa();
        due("2: add(0, 0)", all.add(0, 0), 0);
        due("2: holes() under mask 0", all.holes(), 0);
    }

    private static void addBadPattern() {
        PatternTableIsa x = new PatternTableIsa();
        for (int bad : NO_WORDS) {
            due("2: add(" + bad + ", 0)", x.add(bad, 0), BAD_PATTERN);
            due("2: add(4095, " + bad + ")", x.add(4095, bad), BAD_PATTERN);
            due("2: add(" + bad + ", " + bad + ")", x.add(bad, bad), BAD_PATTERN);
        }
        due("2: add(0, 1)", x.add(0, 1), BAD_PATTERN);
        due("2: add(0x7FF, 0x800)", x.add(0x7FF, 0x800), BAD_PATTERN);
        due("2: add(6, 7)", x.add(6, 7), BAD_PATTERN);
        due("2: nothing was added", x.holes(), 4096);
        due("2: add(7, 6)", x.add(7, 6), 0);
    }

    private static void addOverlap() {
        PatternTableIsa x = new PatternTableIsa();
        due("2: add(0xF00, 0x100)", x.add(0xF00, 0x100), 0);
        due("2: the same again", x.add(0xF00, 0x100), OVERLAP);
        due("2: one inside it", x.add(0xFFF, 0x123), OVERLAP);
        due("2: one around it", x.add(0xE00, 0x000), OVERLAP);
        due("2: one across it", x.add(0x00F, 0x003), OVERLAP);
        due("2: add(0, 0) over it", x.add(0, 0), OVERLAP);
        due("2: nothing was added", x.holes(), 3840);
        due("2: a neighbour", x.add(0xF00, 0x000), 1);
        due("2: one apart by one bit", x.add(0x200, 0x200), 2);
        due("2: it overlaps the last alone", x.add(0xF00, 0x200), OVERLAP);
        due("2: dropLast()", x.dropLast(), 2);
        due("2: no overlap with one taken out", x.add(0xF00, 0x200), 2);
    }

    private static void addFull() {
        PatternTableIsa x = new PatternTableIsa();
        for (int n = 0; n < 16; n++) {
            due("2: add(4095, " + n + ")", x.add(4095, n), n);
        }
        due("2: a seventeenth", x.add(4095, 16), FULL);
        due("2: nothing was added", x.holes(), 4080);
        due("2: decode(16)", x.decode(16), NONE);
        due("2: dropLast()", x.dropLast(), 15);
        due("2: a sixteenth again", x.add(4095, 16), 15);
    }

    private static void fieldOrdinary() {
        PatternTableIsa x = new PatternTableIsa();
        x.add(0xF00, 0x100);
        x.add(0xF00, 0x200);
        due("3: field(1, 0, 8, false)", x.field(1, 0, 8, false), 0);
        due("3: field(1, 4, 4, true)", x.field(1, 4, 4, true), 1);
        due("3: field(0, 7, 1, false)", x.field(0, 7, 1, false), 0);
        due("3: the same bits again", x.field(1, 4, 4, true), 2);
        due("3: value(0x2F1, 0)", x.value(0x2F1, 0), 0xF1);
        due("3: value(0x2F1, 1)", x.value(0x2F1, 1), -1);
        due("3: value(0x180, 0)", x.value(0x180, 0), 1);
        due("3: value(0x180, 1)", x.value(0x180, 1), 0);
        PatternTableIsa whole = new PatternTableIsa();
        whole.add(0, 0);
        due("3: field(0, 0, 12, false)", whole.field(0, 0, 12, false), 0);
        due("3: field(0, 11, 1, true)", whole.field(0, 11, 1, true), 1);
        due("3: field(0, 0, 12, true)", whole.field(0, 0, 12, true), 2);
    }

    private static void fieldWrong() {
        PatternTableIsa x = new PatternTableIsa();
        x.add(0x010, 0x000);
        for (int bad : new int[] {-1, 1, 16, MIN, MAX}) {
            due("3: field(" + bad + ", 0, 1, false)", x.field(bad, 0, 1, false), NO_PATTERN);
        }
        for (int bad : new int[] {-1, 12, 32, 37, MIN, MAX}) {
            due("3: field(0, " + bad + ", 1, false)", x.field(0, bad, 1, false), BAD_FIELD);
        }
        for (int bad : new int[] {-1, 0, 13, 33, MIN, MAX}) {
            due("3: field(0, 0, " + bad + ", false)", x.field(0, 0, bad, false), BAD_FIELD);
            due("3: field(0, 11, " + bad + ", false)", x.field(0, 11, bad, false), BAD_FIELD);
        }
        due("3: low + size is 13", x.field(0, 11, 2, false), BAD_FIELD);
        due("3: low + size is 13", x.field(0, 5, 8, false), BAD_FIELD);
        due("3: low + size is 13", x.field(0, 1, 12, false), BAD_FIELD);
        due("3: low and size are too great", x.field(0, MAX, MAX, false), BAD_FIELD);
        due("3: low below 0, low + size is right", x.field(0, -1, 2, false), BAD_FIELD);
        due("3: a bit in the mask, alone", x.field(0, 4, 1, false), BAD_FIELD);
        due("3: a bit in the mask, highest", x.field(0, 0, 5, false), BAD_FIELD);
        due("3: a bit in the mask, lowest", x.field(0, 4, 8, false), BAD_FIELD);
        due("3: a bit in the mask, between", x.field(0, 0, 12, false), BAD_FIELD);
        due("3: below the mask", x.field(0, 0, 4, false), 0);
        due("3: above the mask", x.field(0, 5, 7, false), 1);
    }

    private static void fieldFull() {
        PatternTableIsa x = sixteen();
        for (int p = 0; p < 16; p++) {
            for (int f = 0; f < 3; f++) {
                due("3: field(" + p + ", " + f + ", 2, false)", x.field(p, f, 2, false), f);
            }
            due("3: a fourth field of " + p, x.field(p, 3, 2, false), FULL);
        }
        for (int p = 0; p < 16; p++) {
            int word = (p << 8) | 9;
            due("3: value(" + word + ", 0)", x.value(word, 0), 1);
            due("3: value(" + word + ", 1)", x.value(word, 1), 0);
            due("3: value(" + word + ", 2)", x.value(word, 2), 2);
            due("3: value(" + word + ", 3)", x.value(word, 3), 0);
        }
    }

    private static void dropLast() {
        PatternTableIsa x = sixteen();
        for (int left = 15; left >= 0; left--) {
            due("4: dropLast()", x.dropLast(), left);
            due("4: decode(" + (left << 8) + ")", x.decode(left << 8), NONE);
            due("4: begin(" + left + ")", x.begin(left), NO_PATTERN);
            due("4: field(" + left + ", 0, 1, false)", x.field(left, 0, 1, false), NO_PATTERN);
            due("4: holes()", x.holes(), 4096 - 256 * left);
        }
        due("4: dropLast() of none", x.dropLast(), NO_PATTERN);
        due("4: dropLast() of none again", x.dropLast(), NO_PATTERN);
        due("4: add(0, 0)", x.add(0, 0), 0);
    }

    private static void dropLastForgetsFields() {
        PatternTableIsa x = new PatternTableIsa();
        x.add(0x800, 0);
        x.field(0, 0, 4, false);
        x.add(0x800, 0x800);
        x.field(1, 0, 4, true);
        x.field(1, 0, 5, true);
        x.field(1, 0, 6, true);
        due("4: dropLast()", x.dropLast(), 1);
        due("4: add(0x800, 0x800)", x.add(0x800, 0x800), 1);
        due("4: value(0xFFF, 0) without fields", x.value(0xFFF, 0), 0);
        due("4: value(0x00F, 0) of the one left", x.value(0x00F, 0), 15);
        x.begin(1);
        due("4: operand(0, 0) without fields", x.operand(0, 0), BAD_FIELD);
        due("4: fields count from 0 again", x.field(1, 0, 11, false), 0);
    }

    private static void begin() {
        PatternTableIsa x = sixteen();
        for (int p = 0; p < 16; p++) {
            due("5: begin(" + p + ")", x.begin(p), p << 8);
        }
        x.field(5, 0, 8, false);
        due("5: begin(5)", x.begin(5), 0x500);
        due("5: operand(0, 255)", x.operand(0, 255), 0x5FF);
        for (int bad : new int[] {-1, 16, -8, MIN, MAX}) {
            due("5: begin(" + bad + ")", x.begin(bad), NO_PATTERN);
        }
        x.field(5, 0, 1, false);
        due("5: a wrong begin changes nothing", x.operand(1, 0), 0x5FE);
        due("5: begin(5) anew", x.begin(5), 0x500);
        due("5: the word is new", x.operand(1, 1), 0x501);
        due("5: begin(6)", x.begin(6), 0x600);
        due("5: pattern 6 has no field", x.operand(0, 0), BAD_FIELD);
    }

    private static void operandUnsigned() {
        PatternTableIsa x = new PatternTableIsa();
        x.add(0xF00, 0xA00);
        x.field(0, 2, 3, false);
        x.field(0, 7, 1, false);
        x.begin(0);
        due("6: operand(0, 7)", x.operand(0, 7), 0xA1C);
        due("6: operand(1, 1)", x.operand(1, 1), 0xA9C);
        due("6: operand(0, 2)", x.operand(0, 2), 0xA88);
        due("6: operand(0, 0)", x.operand(0, 0), 0xA80);
        due("6: operand(1, 0)", x.operand(1, 0), 0xA00);
        for (int bad : new int[] {-1, 8, 16, -8, MIN, MAX}) {
            due("6: operand(0, " + bad + ")", x.operand(0, bad), BAD_VALUE);
        }
        due("6: operand(1, 2)", x.operand(1, 2), BAD_VALUE);
        due("6: operand(1, -1)", x.operand(1, -1), BAD_VALUE);
        due("6: a wrong value changes nothing", x.operand(0, 0), 0xA00);
        PatternTableIsa whole = new PatternTableIsa();
        whole.add(0, 0);
        whole.field(0, 0, 12, false);
        whole.begin(0);
        due("6: operand(0, 4095)", whole.operand(0, 4095), 4095);
        due("6: operand(0, 4096)", whole.operand(0, 4096), BAD_VALUE);
        due("6: operand(0, 0)", whole.operand(0, 0), 0);
    }

    private static void operandSigned() {
        PatternTableIsa x = new PatternTableIsa();
        x.add(0xF00, 0xA00);
        x.field(0, 2, 3, true);
        x.field(0, 7, 1, true);
        x.begin(0);
        due("6: operand(0, -4)", x.operand(0, -4), 0xA10);
        due("6: operand(0, 3)", x.operand(0, 3), 0xA0C);
        due("6: operand(0, -1)", x.operand(0, -1), 0xA1C);
        due("6: operand(1, -1)", x.operand(1, -1), 0xA9C);
        for (int bad : new int[] {-5, 4, 7, 8, MIN, MAX}) {
            due("6: operand(0, " + bad + ")", x.operand(0, bad), BAD_VALUE);
        }
        due("6: operand(1, 1)", x.operand(1, 1), BAD_VALUE);
        due("6: operand(1, -2)", x.operand(1, -2), BAD_VALUE);
        due("6: operand(1, 0)", x.operand(1, 0), 0xA1C);
        PatternTableIsa whole = new PatternTableIsa();
        whole.add(0, 0);
        whole.field(0, 0, 12, true);
        whole.begin(0);
        due("6: operand(0, -2048)", whole.operand(0, -2048), 2048);
        due("6: operand(0, 2047)", whole.operand(0, 2047), 2047);
        due("6: operand(0, -1)", whole.operand(0, -1), 4095);
        due("6: operand(0, 2048)", whole.operand(0, 2048), BAD_VALUE);
        due("6: operand(0, -2049)", whole.operand(0, -2049), BAD_VALUE);
    }

    private static void operandSharedBits() {
        PatternTableIsa x = new PatternTableIsa();
        x.add(0xF00, 0x300);
        x.field(0, 0, 6, false);
        x.field(0, 4, 4, false);
        x.begin(0);
        due("6: operand(0, 63)", x.operand(0, 63), 0x33F);
        due("6: operand(1, 12)", x.operand(1, 12), 0x3CF);
        due("6: operand(0, 16)", x.operand(0, 16), 0x3D0);
    }

    private static void operandWrong() {
        PatternTableIsa x = new PatternTableIsa();
        x.add(0xF00, 0x300);
        x.field(0, 0, 8, false);
        due("6: no pattern was begun", x.operand(0, 0), NO_PATTERN);
        due("6: a begin that was refused", x.begin(1), NO_PATTERN);
        due("6: still no pattern was begun", x.operand(0, 0), NO_PATTERN);
        x.begin(0);
        for (int bad : new int[] {-1, 1, 2, 3, MIN, MAX}) {
            due("6: operand(" + bad + ", 0)", x.operand(bad, 0), BAD_FIELD);
        }
        due("6: operand(0, 5)", x.operand(0, 5), 0x305);
    }

    private static void operandAfterDrop() {
        PatternTableIsa x = new PatternTableIsa();
        x.add(0x800, 0x000);
        x.field(0, 0, 4, false);
        x.add(0x800, 0x800);
        x.field(1, 0, 4, false);
        x.begin(0);
        x.begin(1);
        due("6: operand(0, 5)", x.operand(0, 5), 0x805);
        due("6: dropLast()", x.dropLast(), 1);
        due("6: the begun one is out", x.operand(0, 5), NO_PATTERN);
        x.add(0x800, 0x800);
        x.field(1, 0, 4, false);
        due("6: another has its number", x.operand(0, 5), NO_PATTERN);
        due("6: begin(1)", x.begin(1), 0x800);
        due("6: operand(0, 6)", x.operand(0, 6), 0x806);
        due("6: begin(0)", x.begin(0), 0);
        due("6: dropLast() of another", x.dropLast(), 1);
        due("6: the begun one is still in", x.operand(0, 7), 7);
        due("6: dropLast()", x.dropLast(), 0);
        due("6: dropLast() of none", x.dropLast(), NO_PATTERN);
        due("6: operand(0, 0) on an empty table", x.operand(0, 0), NO_PATTERN);
        x.add(0, 0);
        x.field(0, 0, 4, false);
        due("6: another has number 0", x.operand(0, 0), NO_PATTERN);
    }

    private static void operandAndLaterChanges() {
        PatternTableIsa x = new PatternTableIsa();
        x.add(0x800, 0x800);
        x.begin(0);
        due("6: no field yet", x.operand(0, 3), BAD_FIELD);
        x.field(0, 1, 4, false);
        due("6: a field given after begin", x.operand(0, 3), 0x806);
        x.add(0x800, 0x000);
        x.decode(0);
        x.value(0x806, 0);
        x.holes();
        x.nextHole(0);
        x.covered(1, 0, 4095);
        x.nextWord(1, 0);
        x.field(0, 0, 1, false);
        due("6: other calls leave the word", x.operand(1, 1), 0x807);
    }

    private static void decode() {
        PatternTableIsa x = new PatternTableIsa();
        x.add(0xF00, 0xF00);
        x.add(0xF0F, 0x001);
        due("7: decode(0xF00)", x.decode(0xF00), 0);
        due("7: decode(4095)", x.decode(4095), 0);
        due("7: decode(0xEFF)", x.decode(0xEFF), NONE);
        due("7: decode(0x0F1)", x.decode(0x0F1), 1);
        due("7: decode(0x0F0)", x.decode(0x0F0), NONE);
        due("7: decode(0)", x.decode(0), NONE);
        for (int bad : NO_WORDS) {
            due("7: decode(" + bad + ")", x.decode(bad), BAD_WORD);
        }
        due("7: decode(0x1F01), whose low bits are covered", x.decode(0x1F01), BAD_WORD);
    }

    private static void value() {
        PatternTableIsa x = new PatternTableIsa();
        x.add(0x800, 0x000);
        x.field(0, 3, 4, true);
        x.field(0, 3, 4, false);
        x.field(0, 10, 1, true);
        due("8: value(0x078, 0)", x.value(0x078, 0), -1);
        due("8: value(0x078, 1)", x.value(0x078, 1), 15);
        due("8: value(0x040, 0)", x.value(0x040, 0), -8);
        due("8: value(0x03F, 0)", x.value(0x03F, 0), 7);
        due("8: value(0x787, 0)", x.value(0x787, 0), 0);
        due("8: value(0x400, 2)", x.value(0x400, 2), -1);
        due("8: value(0x3FF, 2)", x.value(0x3FF, 2), 0);
        for (int bad : new int[] {-1, 3, MIN, MAX}) {
            due("8: value(0x07F, " + bad + ")", x.value(0x07F, bad), 0);
        }
        due("8: value(0x878, 1), not covered", x.value(0x878, 1), 0);
        due("8: value(0x1078, 1), out of range", x.value(0x1078, 1), 0);
        for (int bad : NO_WORDS) {
            due("8: value(" + bad + ", 1)", x.value(bad, 1), 0);
        }
        x.add(0xC00, 0xC00);
        due("8: value(0xFFF, 0), the pattern has no field", x.value(0xFFF, 0), 0);
        PatternTableIsa whole = new PatternTableIsa();
        whole.add(0, 0);
        whole.field(0, 0, 12, true);
        whole.field(0, 0, 12, false);
        for (int word = 0; word < 4096; word += 63) {
            due("8: value(" + word + ", 0)", whole.value(word, 0), word < 2048 ? word : word - 4096);
            due("8: value(" + word + ", 1)", whole.value(word, 1), word);
        }
        // In range by its low bits alone, with pattern 0 over every word.
        due("8: value(-1, 0)", whole.value(-1, 0), 0);
        due("8: value(4097, 1)", whole.value(4097, 1), 0);
    }

    private static void holes() {
        PatternTableIsa x = new PatternTableIsa();
        x.add(0x800, 0x800);
        due("9: holes()", x.holes(), 2048);
        x.add(0x803, 0x001);
        due("9: holes()", x.holes(), 1536);
        x.add(0xFFF, 0x000);
        due("9: holes()", x.holes(), 1535);
        x.dropLast();
        x.dropLast();
        due("9: holes()", x.holes(), 2048);
        due("9: holes() of a table without any", sixteen().holes(), 0);
    }

    private static void nextHole() {
        PatternTableIsa x = new PatternTableIsa();
        x.add(0xF00, 0x000);
        x.add(0xF00, 0x100);
        x.add(0xF00, 0xF00);
        x.add(0xF01, 0x301);
        due("10: nextHole(0)", x.nextHole(0), 0x200);
        due("10: nextHole(0x1FF)", x.nextHole(0x1FF), 0x200);
        due("10: nextHole(0x200)", x.nextHole(0x200), 0x200);
        due("10: nextHole(0x301)", x.nextHole(0x301), 0x302);
        due("10: nextHole(0xEFF)", x.nextHole(0xEFF), 0xEFF);
        due("10: nextHole(0xF00)", x.nextHole(0xF00), NONE);
        due("10: nextHole(4095)", x.nextHole(4095), NONE);
        for (int bad : NO_WORDS) {
            due("10: nextHole(" + bad + ")", x.nextHole(bad), BAD_WORD);
        }
        x.dropLast();
        x.dropLast();
        due("10: nextHole(4095)", x.nextHole(4095), 4095);
        due("10: nextHole(0) without holes", sixteen().nextHole(0), NONE);
        PatternTableIsa upper = new PatternTableIsa();
        upper.add(0x800, 0x800);
        due("10: nextHole(0x800), holes below alone", upper.nextHole(0x800), NONE);
    }

    private static void covered() {
        PatternTableIsa x = new PatternTableIsa();
        x.add(0x00F, 0x00F);
        x.add(0x80F, 0x800);
        due("11: covered(0, 0, 4095)", x.covered(0, 0, 4095), 256);
        due("11: covered(1, 0, 4095)", x.covered(1, 0, 4095), 128);
        due("11: covered(0, 15, 15)", x.covered(0, 15, 15), 1);
        due("11: covered(0, 14, 14)", x.covered(0, 14, 14), 0);
        due("11: covered(0, 15, 31)", x.covered(0, 15, 31), 2);
        due("11: covered(0, 16, 30)", x.covered(0, 16, 30), 0);
        due("11: covered(0, 4095, 4095)", x.covered(0, 4095, 4095), 1);
        due("11: covered(1, 0, 0)", x.covered(1, 0, 0), 0);
        due("11: covered(0, 31, 15)", x.covered(0, 31, 15), 0);
        due("11: covered(0, 4095, 0)", x.covered(0, 4095, 0), 0);
        for (int bad : NO_WORDS) {
            due("11: covered(0, " + bad + ", 10)", x.covered(0, bad, 10), BAD_WORD);
            due("11: covered(0, 10, " + bad + ")", x.covered(0, 10, bad), BAD_WORD);
            due("11: covered(2, " + bad + ", " + bad + ")", x.covered(2, bad, bad), NO_PATTERN);
        }
        due("11: from > to, from is no word", x.covered(0, 4096, 0), BAD_WORD);
        due("11: from > to, to is no word", x.covered(0, 0, -1), BAD_WORD);
        for (int bad : new int[] {-1, 2, 16, MIN, MAX}) {
            due("11: covered(" + bad + ", 0, 9)", x.covered(bad, 0, 9), NO_PATTERN);
            due("11: covered(" + bad + ", 9, 0)", x.covered(bad, 9, 0), NO_PATTERN);
        }
    }

    private static void nextWord() {
        PatternTableIsa x = new PatternTableIsa();
        x.add(0x80F, 0x003);
        x.add(0xFFF, 0xFFF);
        due("12: nextWord(0, 0)", x.nextWord(0, 0), 3);
        due("12: nextWord(0, 3)", x.nextWord(0, 3), 3);
        due("12: nextWord(0, 4)", x.nextWord(0, 4), 0x013);
        due("12: nextWord(0, 0x7F3)", x.nextWord(0, 0x7F3), 0x7F3);
        due("12: nextWord(0, 0x7F4)", x.nextWord(0, 0x7F4), NONE);
        due("12: nextWord(0, 4095)", x.nextWord(0, 4095), NONE);
        due("12: nextWord(1, 0)", x.nextWord(1, 0), 4095);
        due("12: nextWord(1, 4095)", x.nextWord(1, 4095), 4095);
        for (int bad : NO_WORDS) {
            due("12: nextWord(0, " + bad + ")", x.nextWord(0, bad), BAD_WORD);
        }
        for (int bad : new int[] {-1, 2, 16, MIN, MAX}) {
            due("12: nextWord(" + bad + ", 0)", x.nextWord(bad, 0), NO_PATTERN);
        }
    }

    private static void orderOfTests() {
        PatternTableIsa x = sixteen();
        due("13: add, BAD_PATTERN before FULL", x.add(0, 1), BAD_PATTERN);
        due("13: add, FULL before OVERLAP", x.add(0xF00, 0), FULL);
        x.dropLast();
        due("13: add, BAD_PATTERN before OVERLAP", x.add(0x0FF, 0x100), BAD_PATTERN);
        due("13: add, OVERLAP", x.add(0xF00, 0), OVERLAP);
        due("13: field, NO_PATTERN before BAD_FIELD", x.field(15, 12, 0, false), NO_PATTERN);
        x.field(0, 0, 1, false);
        x.field(0, 0, 1, false);
        x.field(0, 0, 1, false);
        due("13: field, BAD_FIELD before FULL", x.field(0, 0, 13, false), BAD_FIELD);
        due("13: field, BAD_FIELD of the mask before FULL", x.field(0, 8, 1, false), BAD_FIELD);
        due("13: field, FULL", x.field(0, 0, 1, false), FULL);
        due("13: operand, NO_PATTERN before BAD_FIELD", x.operand(3, 2), NO_PATTERN);
        due("13: operand, NO_PATTERN before BAD_VALUE", x.operand(0, 2), NO_PATTERN);
        x.begin(0);
        due("13: operand, BAD_FIELD before BAD_VALUE", x.operand(3, 2), BAD_FIELD);
        due("13: operand, BAD_VALUE", x.operand(0, 2), BAD_VALUE);
        due("13: nextWord, NO_PATTERN before BAD_WORD", x.nextWord(15, 4096), NO_PATTERN);
        due("13: nextWord, BAD_WORD before NONE", x.nextWord(0, 4096), BAD_WORD);
        due("13: nextWord, NONE", x.nextWord(0, 4095), NONE);
    }
}
