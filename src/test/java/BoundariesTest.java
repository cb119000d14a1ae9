import java.util.ArrayList;
import java.util.List;

/**
 * For each sentence of the document that names a boundary case, a test of its own, under the
 * document's words. A call that is refused is also tested to change nothing: see refused().
 */
public final class BoundariesTest {
    private static final int BAD_PATTERN = -1;
    private static final int OVERLAP = -2;
    private static final int FULL = -3;
    private static final int NO_PATTERN = -4;
    private static final int BAD_FIELD = -5;
    private static final int BAD_VALUE = -6;
    private static final int BAD_WORD = -7;
    private static final int NONE = -8;

    private static final int MIN = Integer.MIN_VALUE;
    private static final int MAX = Integer.MAX_VALUE;
    private static final int[] BELOW_0 = {-1, -2, -8, -4095, -4096, MIN, MIN + 1};
    // Among them numbers whose low twelve bits alone would be right, 0 and 1 for instance.
    private static final int[] ABOVE_4095 = {4096, 4097, 8191, 65536, 1 << 30, MAX - 1, MAX};

    private interface Calls {
        void on(PatternTableIsa x);
    }

    private interface Call {
        int on(PatternTableIsa x);
    }

    private interface Probe {
        void ask(PatternTableIsa x, List<Integer> answers);
    }

    private static String sentence;
    private static int tests = 0;
    private static int wrong = 0;

    public static void main(String[] args) {
        whatItIsAndTerms();
        promise1();
        promise2();
        promise3();
        promise4();
        promise5();
        promise6();
        promises7And8();
        promises9And10();
        promise11();
        promise12();
        promise13();
        queriesChangeNothing();
        System.out.println(wrong == 0
                ? tests + " boundary cases, all answers are as due"
                : wrong + " answers are not as due");
        if (wrong != 0) {
            System.exit(1);
        }
    }

    private static void test(String promise, String words, Runnable body) {
        sentence = promise + ", \"" + words + "\"";
        tests++;
        try {
            body.run();
        } catch (RuntimeException thrown) {
            // The tests of the other sentences are still to be run.
            fail("a call threw " + thrown);
        }
    }

    private static void fail(String text) {
        wrong++;
        System.out.println(sentence + ": " + text);
    }

    private static void due(String call, int got, int want) {
        if (got != want) {
            fail(call + " answered " + got + ", due is " + want);
        }
    }

    private static PatternTableIsa made(Calls state) {
        PatternTableIsa x = new PatternTableIsa();
        state.on(x);
        return x;
    }

    // ---- states that a refused call is tried in; each takes few of an object's 512 calls

    private static void nothing(PatternTableIsa x) {
    }

    private static void oneWithoutFields(PatternTableIsa x) {
        x.add(0xF00, 0x100);
    }

    private static void oneBegun(PatternTableIsa x) {
        x.add(0xF00, 0x100);
        x.field(0, 0, 8, false);
        x.field(0, 3, 1, false);
        x.begin(0);
        x.operand(0, 0x5A);
    }

    private static void threeWithTheMiddleBegun(PatternTableIsa x) {
        x.add(0xC00, 0x400);
        x.add(0xC01, 0x801);
        x.field(1, 1, 9, true);
        x.field(1, 5, 1, false);
        x.field(1, 1, 1, true);
        x.add(0xFF0, 0x330);
        x.field(2, 0, 4, true);
        x.begin(2);
        x.operand(0, -3);
        x.begin(1);
        x.operand(0, -87);
    }

    private static void begunOneTakenOut(PatternTableIsa x) {
        x.add(0xF00, 0x100);
        x.field(0, 0, 8, false);
        x.add(0xF00, 0x200);
        x.field(1, 0, 8, false);
        x.begin(0);
        x.begin(1);
        x.operand(0, 0x33);
        x.dropLast();
    }

    private static void itsNumberTakenAgain(PatternTableIsa x) {
        begunOneTakenOut(x);
        x.add(0xF00, 0x200);
        x.field(1, 0, 8, false);
    }

    // Pattern n covers the 256 words from 256 * n on.
    private static void sixteen(PatternTableIsa x) {
        for (int n = 0; n < 16; n++) {
            x.add(0xF00, n << 8);
        }
    }

    private static void sixteenWithTheLastBegun(PatternTableIsa x) {
        sixteen(x);
        x.field(0, 0, 8, false);
        x.field(15, 0, 8, true);
        x.field(15, 0, 1, false);
        x.field(15, 7, 1, true);
        x.begin(15);
        x.operand(0, -86);
    }

    private static void sixteenSmall(PatternTableIsa x) {
        for (int n = 0; n < 16; n++) {
            x.add(4095, n);
        }
    }

    private static void oneOverAllWords(PatternTableIsa x) {
        x.add(0, 0);
        x.field(0, 0, 12, false);
        x.field(0, 11, 1, true);
        x.field(0, 0, 1, false);
        x.begin(0);
        x.operand(0, 0xA5A);
    }

    // Twelve patterns that leave the word 0 alone uncovered.
    private static void allButZero(PatternTableIsa x) {
        for (int i = 0; i < 12; i++) {
            x.add((2 << i) - 1, 1 << i);
        }
    }

    // Twelve patterns that leave the word 4095 alone uncovered.
    private static void allButTheLast(PatternTableIsa x) {
        for (int i = 0; i < 12; i++) {
            x.add((2 << i) - 1, (1 << i) - 1);
        }
    }

    // ---- "nothing changes": an object that refused a call goes on like its twin without the call

    private static List<Probe> probes() {
        List<Probe> probes = new ArrayList<>();
        for (int start = 0; start < 4096; start += 256) {
            int first = start;
            probes.add((x, answers) -> {
                for (int word = first; word < first + 256; word++) {
                    answers.add(x.decode(word));
                }
            });
        }
        for (int field = 0; field < 3; field++) {
            int f = field;
            probes.add((x, answers) -> {
                for (int word = 0; word < 4096; word += 13) {
                    answers.add(x.value(word, f));
                }
            });
        }
        probes.add(BoundariesTest::askForWords);
        for (int field = 0; field < 3; field++) {
            for (int value = -1; value <= 1; value++) {
                int f = field;
                int v = value;
                // The first operand alone shows the word as it stood.
                probes.add((x, answers) -> answers.add(x.operand(f, v)));
            }
        }
        probes.add(BoundariesTest::giveFields);
        probes.add(BoundariesTest::addMore);
        probes.add(BoundariesTest::takeAllOut);
        return probes;
    }

    private static void askForWords(PatternTableIsa x, List<Integer> answers) {
        answers.add(x.holes());
        for (int from = 0; from < 4096; from += 91) {
            answers.add(x.nextHole(from));
        }
        for (int p = 0; p < 16; p++) {
            answers.add(x.covered(p, 0, 4095));
            answers.add(x.covered(p, 1000, 2500));
            answers.add(x.nextWord(p, 0));
            answers.add(x.nextWord(p, 0x333));
        }
    }

    private static void giveFields(PatternTableIsa x, List<Integer> answers) {
        for (int p = 0; p < 16; p++) {
            for (int low = 0; low < 12; low++) {
                answers.add(x.field(p, low, 1, low % 2 == 0));
            }
        }
        for (int p = 0; p < 16; p++) {
            int word = x.begin(p);
            answers.add(word);
            for (int f = 0; f < 3; f++) {
                answers.add(x.operand(f, 1));
                answers.add(x.operand(f, -1));
                answers.add(x.value(word, f));
            }
        }
    }

    private static void addMore(PatternTableIsa x, List<Integer> answers) {
        for (int word = 0; word < 4096; word += 31) {
            answers.add(x.add(4095, word));
        }
        answers.add(x.operand(0, 0));
    }

    private static void takeAllOut(PatternTableIsa x, List<Integer> answers) {
        for (int n = 0; n < 17; n++) {
            answers.add(x.dropLast());
            answers.add(x.operand(0, 0));
        }
        for (int n = 0; n < 16; n++) {
            answers.add(x.add(0xF00, n << 8));
            answers.add(x.operand(0, 0));
            answers.add(x.value(n << 8 | 0xFF, 0));
        }
    }

    private static void changesNothing(String name, Calls state, Call call) {
        for (Probe probe : probes()) {
            PatternTableIsa x = made(state);
            // An odd number of times, so that a change to and fro is seen too.
            for (int time = 0; time < 3; time++) {
                call.on(x);
            }
            List<Integer> after = new ArrayList<>();
            probe.ask(x, after);
            List<Integer> without = new ArrayList<>();
            probe.ask(made(state), without);
            if (!after.equals(without)) {
                fail(name + " changed something: later calls answered " + after + " instead of " + without);
                return;
            }
        }
    }

    private static void refused(String name, Calls state, Call call, int want) {
        due(name, call.on(made(state)), want);
        changesNothing(name, state, call);
    }

    // ---- what the document says ahead of the promises

    private static void whatItIsAndTerms() {
        test("What it is", "at most 512 calls", BoundariesTest::the512thCall);
        test("Terms", "Up to sixteen PATTERNS, numbered from 0 in the order in which they were added", () -> {
            PatternTableIsa x = new PatternTableIsa();
            for (int n = 0; n < 16; n++) {
                due("add number " + n, x.add(0xF00, (15 - n) << 8), n);
            }
            for (int n = 0; n < 16; n++) {
                due("decode of a word of " + n, x.decode((15 - n) << 8), n);
            }
        });
        test("Terms", "it covers the words w with (w & mask) == bits", () -> {
            PatternTableIsa all = made(x -> x.add(0, 0));
            due("mask 0: covered(0, 0, 4095)", all.covered(0, 0, 4095), 4096);
            for (int word : new int[] {0, 1, 2048, 4095}) {
                PatternTableIsa one = made(x -> x.add(4095, word));
                due("mask 4095: covered(0, 0, 4095)", one.covered(0, 0, 4095), 1);
                due("mask 4095: decode(" + word + ")", one.decode(word), 0);
            }
            for (int bit = 0; bit < 12; bit++) {
                int mask = 1 << bit;
                PatternTableIsa half = made(x -> x.add(mask, mask));
                due("mask " + mask + ": decode(" + mask + ")", half.decode(mask), 0);
                due("mask " + mask + ": decode(4095)", half.decode(4095), 0);
                due("mask " + mask + ": decode(" + (4095 - mask) + ")", half.decode(4095 - mask), NONE);
                due("mask " + mask + ": decode(0)", half.decode(0), NONE);
            }
        });
        test("Terms", "Two patterns OVERLAP if some word is covered by both", BoundariesTest::overlapInOneWord);
        test("Terms", "A pattern has up to three FIELDS (0 to 2)", BoundariesTest::threeFieldsOfEachOfSixteen);
        test("Terms", "its lowest bit 'low' (0 to 11), its number of bits 'size' (1 to 12, low + size at most 12)",
                BoundariesTest::everyLowAndSize);
        test("Terms", "None of a field's bits is in the pattern's mask", () -> {
            PatternTableIsa x = made(y -> y.add(0x3FC, 0));
            due("the two bits below the mask", x.field(0, 0, 2, false), 0);
            due("the two bits above the mask", x.field(0, 10, 2, false), 1);
            due("one bit more from below", x.field(0, 0, 3, false), BAD_FIELD);
            due("one bit more from above", x.field(0, 9, 3, false), BAD_FIELD);
        });
        test("Terms", "fields of one pattern may share bits", () -> {
            PatternTableIsa x = made(y -> y.add(0, 0));
            due("all bits", x.field(0, 0, 12, false), 0);
            due("all bits again", x.field(0, 0, 12, true), 1);
            due("the highest bit", x.field(0, 11, 1, false), 2);
            due("value(0x801, 0)", x.value(0x801, 0), 0x801);
            due("value(0x801, 1)", x.value(0x801, 1), -0x7FF);
            due("value(0x801, 2)", x.value(0x801, 2), 1);
            x.begin(0);
            due("operand(1, 1)", x.operand(1, 1), 1);
            due("operand(2, 1)", x.operand(2, 1), 0x801);
        });
        test("Terms", "its bits as a number from 0 on", () -> everyFieldsValues(false));
        test("Terms", "as a number in two's complement (-2^(size-1) to 2^(size-1) - 1)",
                () -> everyFieldsValues(true));
    }

    private static void the512thCall() {
        PatternTableIsa x = new PatternTableIsa();
        for (int round = 0; round < 85; round++) {
            due("add(0, 0)", x.add(0, 0), 0);
            due("field(0, 0, 12, false)", x.field(0, 0, 12, false), 0);
            due("begin(0)", x.begin(0), 0);
            due("operand(0, " + round + ")", x.operand(0, round), round);
            due("dropLast()", x.dropLast(), 0);
            due("operand(0, 0) after dropLast()", x.operand(0, 0), NO_PATTERN);
        }
        due("call 511, add(4095, 4095)", x.add(4095, 4095), 0);
        due("call 512, holes()", x.holes(), 4095);
    }

    private static void overlapInOneWord() {
        PatternTableIsa x = made(y -> y.add(0xFC0, 0xA80));
        due("they share the word 0xA95 alone", x.add(0x03F, 0x015), OVERLAP);
        due("they share the word 0xA80 alone", x.add(4095, 0xA80), OVERLAP);
        due("they share the word 0xABF alone", x.add(4095, 0xABF), OVERLAP);
        due("they share no word, but are neighbours", x.add(4095, 0xA7F), 1);
        due("they share no word, but are neighbours", x.add(4095, 0xAC0), 2);
        // One bit fixed in both masks is enough to keep two patterns apart.
        for (int bit = 0; bit < 12; bit++) {
            int mask = 1 << bit;
            PatternTableIsa half = made(y -> y.add(mask, mask));
            due("add(" + mask + ", 0) beside the other half", half.add(mask, 0), 1);
        }
    }

    private static void threeFieldsOfEachOfSixteen() {
        PatternTableIsa x = made(BoundariesTest::sixteen);
        for (int p = 0; p < 16; p++) {
            for (int f = 0; f <= 2; f++) {
                due("field " + f + " of pattern " + p, x.field(p, lowOf(p, f), 1, isSigned(p, f)), f);
            }
        }
        // Asked only now, so that a field that another pattern's field has replaced is seen.
        for (int p = 0; p < 16; p++) {
            for (int f = 0; f <= 2; f++) {
                int bit = 1 << lowOf(p, f);
                String name = "field " + f + " of pattern " + p;
                due(name + ", its bit alone", x.value(p << 8 | bit, f), isSigned(p, f) ? -1 : 1);
                due(name + ", all but its bit", x.value(p << 8 | (0xFF - bit), f), 0);
            }
        }
    }

    private static int lowOf(int pattern, int field) {
        return (pattern + pattern / 8 + 3 * field) % 8;
    }

    private static boolean isSigned(int pattern, int field) {
        return (pattern + field) % 3 == 0;
    }

    private static void everyLowAndSize() {
        for (int low = -2; low <= 14; low++) {
            for (int size = -2; size <= 14; size++) {
                boolean right = low >= 0 && low <= 11 && size >= 1 && size <= 12 && low + size <= 12;
                PatternTableIsa x = made(y -> y.add(0, 0));
                due("field(0, " + low + ", " + size + ", false)", x.field(0, low, size, false),
                        right ? 0 : BAD_FIELD);
            }
        }
    }

    private static void everyFieldsValues(boolean signed) {
        for (int low = 0; low < 12; low++) {
            for (int size = 1; low + size <= 12; size++) {
                int count = 1 << size;
                int least = signed ? -(count / 2) : 0;
                int most = least + count - 1;
                for (int value : new int[] {least, least + 1, 0, most - 1, most}) {
                    if (value >= least && value <= most) {
                        putAndRead(low, size, signed, value);
                    }
                }
            }
        }
    }

    private static void putAndRead(int low, int size, boolean signed, int value) {
        // The bits beside the field are 1 in the mask, so that one that slips in is seen.
        int inField = ((1 << size) - 1) << low;
        int mask = 4095 - inField;
        int word = mask | ((value << low) & inField);
        String name = "field(0, " + low + ", " + size + ", " + signed + "), ";
        PatternTableIsa x = made(y -> y.add(mask, mask));
        x.field(0, low, size, signed);
        x.begin(0);
        due(name + "operand(0, " + value + ")", x.operand(0, value), word);
        due(name + "value(" + word + ", 0)", x.value(word, 0), value);
    }

    // ---- the promises, one by one

    private static void promise1() {
        test("1", "No patterns.", () -> {
            PatternTableIsa x = new PatternTableIsa();
            due("holes()", x.holes(), 4096);
            due("decode(0)", x.decode(0), NONE);
            due("decode(4095)", x.decode(4095), NONE);
            due("begin(0)", x.begin(0), NO_PATTERN);
            due("field(0, 0, 1, false)", x.field(0, 0, 1, false), NO_PATTERN);
            due("operand(0, 0)", x.operand(0, 0), NO_PATTERN);
            due("covered(0, 0, 0)", x.covered(0, 0, 0), NO_PATTERN);
            due("nextWord(0, 0)", x.nextWord(0, 0), NO_PATTERN);
            due("dropLast()", x.dropLast(), NO_PATTERN);
            due("the first pattern's number", x.add(0, 0), 0);
        });
        test("1", "No patterns. (while another object has some)", () -> {
            PatternTableIsa other = made(BoundariesTest::sixteenWithTheLastBegun);
            PatternTableIsa x = new PatternTableIsa();
            due("holes()", x.holes(), 4096);
            due("operand(0, 0)", x.operand(0, 0), NO_PATTERN);
            due("add(0, 0)", x.add(0, 0), 0);
            due("the other's holes()", other.holes(), 0);
            due("the other's operand(1, 1)", other.operand(1, 1), 0xFAB);
        });
        test("1", "No patterns. (and what it is given later is its own)", () -> {
            PatternTableIsa first = made(BoundariesTest::oneBegun);
            PatternTableIsa second = new PatternTableIsa();
            due("add(0xE00, 0xE00)", second.add(0xE00, 0xE00), 0);
            due("field(0, 5, 4, true)", second.field(0, 5, 4, true), 0);
            due("begin(0)", second.begin(0), 0xE00);
            due("operand(0, -1)", second.operand(0, -1), 0xFE0);
            due("the first's operand(1, 0)", first.operand(1, 0), 0x152);
            due("the first's decode(0x1FF)", first.decode(0x1FF), 0);
            due("the first's decode(0xE00)", first.decode(0xE00), NONE);
            due("the first's value(0x1FF, 0)", first.value(0x1FF, 0), 0xFF);
            due("the first's value(0x1FF, 1)", first.value(0x1FF, 1), 1);
            due("the first's third field", first.field(0, 0, 1, false), 2);
            due("the second's value(0xFFF, 0)", second.value(0xFFF, 0), -1);
            due("the second's second field", second.field(0, 0, 1, false), 1);
        });
    }

    private static void promise2() {
        test("2", "Adds a pattern without fields.", () -> {
            PatternTableIsa x = made(BoundariesTest::oneOverAllWords);
            x.dropLast();
            due("add(0, 0)", x.add(0, 0), 0);
            for (int f = 0; f < 3; f++) {
                due("value(4095, " + f + ")", x.value(4095, f), 0);
            }
            x.begin(0);
            due("operand(0, 0)", x.operand(0, 0), BAD_FIELD);
            due("the first field's number", x.field(0, 0, 1, false), 0);
        });
        test("2", "mask or bits not in 0 to 4095 (mask too small)", () -> {
            for (int mask : BELOW_0) {
                refusedAdd(mask, 0, BAD_PATTERN);
            }
            refusedAdd(-1, 1, BAD_PATTERN);
            refusedAdd(-1, 4095, BAD_PATTERN);
        });
        test("2", "mask or bits not in 0 to 4095 (mask too large)", () -> {
            for (int mask : ABOVE_4095) {
                refusedAdd(mask, 0, BAD_PATTERN);
            }
            refusedAdd(8191, 4095, BAD_PATTERN);
        });
        test("2", "mask or bits not in 0 to 4095 (bits too small)", () -> {
            for (int bits : BELOW_0) {
                refusedAdd(4095, bits, BAD_PATTERN);
            }
            refusedAdd(-1, -1, BAD_PATTERN);
            refusedAdd(MIN, MIN, BAD_PATTERN);
        });
        test("2", "mask or bits not in 0 to 4095 (bits too large)", () -> {
            for (int bits : ABOVE_4095) {
                refusedAdd(4095, bits, BAD_PATTERN);
                refusedAdd(bits, bits, BAD_PATTERN);
            }
        });
        test("2", "mask or bits not in 0 to 4095 (the least and the greatest are right)", () -> {
            due("add(0, 0)", made(BoundariesTest::nothing).add(0, 0), 0);
            due("add(4095, 0)", made(BoundariesTest::nothing).add(4095, 0), 0);
            due("add(4095, 4095)", made(BoundariesTest::nothing).add(4095, 4095), 0);
        });
        test("2", "bits has a bit outside the mask: BAD_PATTERN", () -> {
            for (int bit = 0; bit < 12; bit++) {
                refusedAdd(4095 - (1 << bit), 1 << bit, BAD_PATTERN);
                refusedAdd(4095 - (1 << bit), 4095, BAD_PATTERN);
                refusedAdd(0, 1 << bit, BAD_PATTERN);
            }
        });
        test("2", "there are sixteen: FULL", () -> {
            refused("add(4095, 16)", BoundariesTest::sixteenSmall, x -> x.add(4095, 16), FULL);
            refused("add(4095, 4095)", BoundariesTest::sixteenSmall, x -> x.add(4095, 4095), FULL);
            refused("add(0x800, 0x800)", BoundariesTest::sixteenSmall, x -> x.add(0x800, 0x800), FULL);
            PatternTableIsa x = made(BoundariesTest::sixteenSmall);
            x.dropLast();
            due("add with fifteen in the table", x.add(4095, 16), 15);
            due("add with sixteen again", x.add(4095, 17), FULL);
        });
        test("2", "it overlaps a pattern in the table: OVERLAP", BoundariesTest::refusedForOverlap);
        test("2", "Else answers its number.", () -> {
            PatternTableIsa x = made(BoundariesTest::sixteenSmall);
            for (int left = 15; left >= 0; left--) {
                due("dropLast()", x.dropLast(), left);
                due("add(4095, 4095)", x.add(4095, 4095), left);
                due("decode(4095)", x.decode(4095), left);
                due("dropLast()", x.dropLast(), left);
            }
        });
    }

    private static void refusedAdd(int mask, int bits, int want) {
        String name = "add(" + mask + ", " + bits + ")";
        Call call = x -> x.add(mask, bits);
        refused(name + " on a new object", BoundariesTest::nothing, call, want);
        refused(name + " with a pattern begun", BoundariesTest::threeWithTheMiddleBegun, call, want);
    }

    private static void refusedForOverlap() {
        refused("the same again", BoundariesTest::oneBegun, x -> x.add(0xF00, 0x100), OVERLAP);
        refused("its first word", BoundariesTest::oneBegun, x -> x.add(4095, 0x100), OVERLAP);
        refused("its last word", BoundariesTest::oneBegun, x -> x.add(4095, 0x1FF), OVERLAP);
        refused("all words", BoundariesTest::oneBegun, x -> x.add(0, 0), OVERLAP);
        refused("one with no bit of its mask", BoundariesTest::oneBegun, x -> x.add(0x0FF, 0x011), OVERLAP);
        Calls three = BoundariesTest::threeWithTheMiddleBegun;
        refused("the first of three", three, x -> x.add(4095, 0x4F0), OVERLAP);
        refused("the second of three", three, x -> x.add(4095, 0xB01), OVERLAP);
        refused("the last of three", three, x -> x.add(4095, 0x330), OVERLAP);
        refused("any after one over all words", BoundariesTest::oneOverAllWords, x -> x.add(4095, 0), OVERLAP);
        PatternTableIsa x = made(BoundariesTest::itsNumberTakenAgain);
        x.dropLast();
        due("one taken out is no longer in the table", x.add(0xF80, 0x280), 1);
    }

    private static void promise3() {
        test("3", "No such pattern: NO_PATTERN", BoundariesTest::fieldWithoutPattern);
        test("3", "low not in 0 to 11 (too small)", () -> {
            for (int low : BELOW_0) {
                refusedField(low, 1);
            }
            refusedField(-1, 2);
            refusedField(-1, 12);
            refusedField(-11, 12);
            refusedField(-31, 1);
            refusedField(-32, 1);
        });
        test("3", "low not in 0 to 11 (too large)", () -> {
            for (int low : new int[] {12, 13, 31, 32, 33, 64, MAX - 1}) {
                refusedField(low, 1);
            }
        });
        test("3", "size not in 1 to 12 (too small)", () -> {
            for (int size : new int[] {0, -1, -12, -31, -32, MIN, MIN + 1}) {
                refusedField(0, size);
                refusedField(11, size);
            }
        });
        test("3", "size not in 1 to 12 (too large)", () -> {
            for (int size : new int[] {13, 14, 32, 33, 44, MAX - 1, MAX}) {
                refusedField(0, size);
            }
        });
        test("3", "low + size above 12", () -> {
            for (int low = 1; low < 12; low++) {
                refusedField(low, 13 - low);
                refusedField(low, 12);
            }
        });
        test("3", "low + size above 12 (a sum that wraps around)", () -> {
            refusedField(MAX, 1);
            refusedField(MAX, 12);
            refusedField(1, MAX);
            refusedField(11, MAX);
            refusedField(MAX, MAX);
            refusedField(MIN, MIN);
            refusedField(11, MAX - 10);
        });
        test("3", "one of the bits is in the mask: BAD_FIELD", BoundariesTest::fieldInTheMask);
        test("3", "it has three fields: FULL", () -> {
            Calls three = BoundariesTest::threeWithTheMiddleBegun;
            refused("a fourth field, free bits", three, x -> x.field(1, 2, 1, false), FULL);
            refused("a fourth field, the same bits", three, x -> x.field(1, 1, 9, true), FULL);
            Calls all = BoundariesTest::sixteenWithTheLastBegun;
            refused("a fourth field of pattern 15", all, x -> x.field(15, 0, 8, false), FULL);
            PatternTableIsa x = made(all);
            due("the neighbour has none", x.field(14, 0, 8, false), 0);
            due("pattern 0 has one", x.field(0, 0, 8, false), 1);
            due("pattern 0 has two", x.field(0, 0, 8, false), 2);
            due("pattern 0 has three", x.field(0, 0, 8, false), FULL);
        });
        test("3", "Else answers the field's number.", () -> {
            PatternTableIsa x = made(y -> {
                y.add(0x800, 0);
                y.add(0x800, 0x800);
            });
            for (int f = 0; f < 3; f++) {
                due("field " + f + " of pattern 1", x.field(1, f, 1, false), f);
                due("field " + f + " of pattern 0", x.field(0, f, 1, true), f);
            }
        });
    }

    private static void fieldWithoutPattern() {
        refused("field(0, ..) of none", BoundariesTest::nothing, x -> x.field(0, 0, 1, false), NO_PATTERN);
        for (int p : new int[] {-1, -2, -3, -8, 3, 4, 15, 16, 17, MIN, MAX, MAX / 3 + 1}) {
            refused("field(" + p + ", ..) of three", BoundariesTest::threeWithTheMiddleBegun,
                    x -> x.field(p, 0, 1, false), NO_PATTERN);
        }
        for (int p : new int[] {-1, 16, 17, 48, MIN, MAX}) {
            refused("field(" + p + ", ..) of sixteen", BoundariesTest::sixteenWithTheLastBegun,
                    x -> x.field(p, 0, 1, false), NO_PATTERN);
        }
        refused("one taken out", BoundariesTest::begunOneTakenOut, x -> x.field(1, 0, 1, false), NO_PATTERN);
    }

    private static void refusedField(int low, int size) {
        String name = "field(0, " + low + ", " + size + ", ..)";
        Calls open = x -> x.add(0, 0);
        refused(name, open, x -> x.field(0, low, size, false), BAD_FIELD);
        refused(name + " signed", open, x -> x.field(0, low, size, true), BAD_FIELD);
        Calls begun = x -> {
            x.add(0, 0);
            x.field(0, 2, 3, false);
            x.begin(0);
            x.operand(0, 5);
        };
        refused(name + " with a pattern begun", begun, x -> x.field(0, low, size, false), BAD_FIELD);
    }

    private static void fieldInTheMask() {
        for (int bit = 0; bit < 12; bit++) {
            int b = bit;
            Calls fixed = x -> x.add(1 << b, 0);
            refused("bit " + b + " alone", fixed, x -> x.field(0, b, 1, false), BAD_FIELD);
            refused("bit " + b + " as the highest", fixed, x -> x.field(0, 0, b + 1, true), BAD_FIELD);
            refused("bit " + b + " as the lowest", fixed, x -> x.field(0, b, 12 - b, false), BAD_FIELD);
            refused("bit " + b + " among all", fixed, x -> x.field(0, 0, 12, false), BAD_FIELD);
        }
        refused("a mask without a free bit", x -> x.add(4095, 0), x -> x.field(0, 0, 1, false), BAD_FIELD);
        // A mask bit counts whether the pattern's bit is 0 or 1.
        refused("a mask bit that is 1", x -> x.add(4, 4), x -> x.field(0, 2, 1, false), BAD_FIELD);
        PatternTableIsa x = made(y -> y.add(4095 - 0x020, 0));
        due("the only free bit", x.field(0, 5, 1, false), 0);
    }

    private static void promise4() {
        test("4", "There is none: NO_PATTERN.", () -> {
            refused("dropLast() on a new object", BoundariesTest::nothing, x -> x.dropLast(), NO_PATTERN);
            Calls emptied = x -> {
                oneBegun(x);
                x.dropLast();
            };
            refused("dropLast() after the only one", emptied, x -> x.dropLast(), NO_PATTERN);
            Calls badAdd = x -> x.add(0, 1);
            refused("dropLast() after a refused add", badAdd, x -> x.dropLast(), NO_PATTERN);
        });
        test("4", "Takes the last pattern (the one with the greatest number) out", () -> {
            PatternTableIsa x = made(BoundariesTest::threeWithTheMiddleBegun);
            due("dropLast()", x.dropLast(), 2);
            due("a word of pattern 2", x.decode(0x330), NONE);
            due("a word of pattern 1", x.decode(0x801), 1);
            due("a word of pattern 0", x.decode(0x400), 0);
            due("begin(2)", x.begin(2), NO_PATTERN);
            due("covered(2, 0, 4095)", x.covered(2, 0, 4095), NO_PATTERN);
            due("nextWord(2, 0)", x.nextWord(2, 0), NO_PATTERN);
        });
        test("4", "with its fields", () -> {
            PatternTableIsa x = made(BoundariesTest::threeWithTheMiddleBegun);
            x.dropLast();
            x.dropLast();
            due("add(0xC01, 0x801)", x.add(0xC01, 0x801), 1);
            due("value(0xBFF, 0)", x.value(0xBFF, 0), 0);
            due("a first field", x.field(1, 1, 1, false), 0);
            due("value(0xBFF, 0)", x.value(0xBFF, 0), 1);
            due("value(0xBFF, 1)", x.value(0xBFF, 1), 0);
            due("a second field", x.field(1, 1, 1, false), 1);
            due("a third field", x.field(1, 1, 1, false), 2);
        });
        test("4", "Else answers how many are left.", () -> {
            PatternTableIsa x = made(BoundariesTest::sixteen);
            for (int left = 15; left >= 0; left--) {
                due("dropLast()", x.dropLast(), left);
                due("holes()", x.holes(), 4096 - 256 * left);
            }
        });
    }

    private static void promise5() {
        test("5", "all bits outside its mask 0", () -> {
            due("begin of mask 0", made(x -> x.add(0, 0)).begin(0), 0);
            due("begin of mask 4095", made(x -> x.add(4095, 4095)).begin(0), 4095);
            due("begin of mask 4095, bits 0", made(x -> x.add(4095, 0)).begin(0), 0);
            due("begin of mask 0x888", made(x -> x.add(0x888, 0x808)).begin(0), 0x808);
            PatternTableIsa x = made(BoundariesTest::oneOverAllWords);
            due("begin after operand", x.begin(0), 0);
            due("the word is begun anew", x.operand(2, 1), 1);
        });
        test("5", "No such pattern: NO_PATTERN, nothing changes.", () -> {
            refused("begin(0) of none", BoundariesTest::nothing, x -> x.begin(0), NO_PATTERN);
            for (int p : new int[] {-1, -2, -8, 3, 4, 15, 16, MIN, MAX}) {
                refused("begin(" + p + ") of three", BoundariesTest::threeWithTheMiddleBegun,
                        x -> x.begin(p), NO_PATTERN);
            }
            for (int p : new int[] {-1, 16, 17, MIN, MAX}) {
                refused("begin(" + p + ") of sixteen", BoundariesTest::sixteenWithTheLastBegun,
                        x -> x.begin(p), NO_PATTERN);
            }
            refused("begin(1), taken out", BoundariesTest::begunOneTakenOut, x -> x.begin(1), NO_PATTERN);
            refused("begin(1), none begun", BoundariesTest::oneWithoutFields, x -> x.begin(1), NO_PATTERN);
        });
        test("5", "Else answers the word.", () -> {
            PatternTableIsa x = made(BoundariesTest::sixteenWithTheLastBegun);
            for (int p = 15; p >= 0; p--) {
                due("begin(" + p + ")", x.begin(p), p << 8);
            }
        });
    }

    private static void promise6() {
        test("6", "No pattern was begun", () -> {
            refused("on a new object", BoundariesTest::nothing, x -> x.operand(0, 0), NO_PATTERN);
            Calls ready = x -> {
                x.add(0xF00, 0x100);
                x.field(0, 0, 8, false);
            };
            refused("with a pattern that has the field", ready, x -> x.operand(0, 1), NO_PATTERN);
            Calls badBegin = x -> {
                ready.on(x);
                x.begin(1);
            };
            refused("after a begin that was refused", badBegin, x -> x.operand(0, 1), NO_PATTERN);
        });
        test("6", "or it has been taken out since", BoundariesTest::begunPatternIsOut);
        test("6", "(even if a pattern added later has its number): NO_PATTERN", BoundariesTest::laterOneHasItsNumber);
        test("6", "a field of the pattern that was begun last", () -> {
            PatternTableIsa x = made(BoundariesTest::threeWithTheMiddleBegun);
            due("begin(2)", x.begin(2), 0x330);
            due("operand(0, -1)", x.operand(0, -1), 0x33F);
            due("dropLast()", x.dropLast(), 2);
            due("the one begun before it isn't taken up again", x.operand(0, 0), NO_PATTERN);
            due("begin(1)", x.begin(1), 0x801);
            due("add(0xFF0, 0x330)", x.add(0xFF0, 0x330), 2);
            due("dropLast() of another", x.dropLast(), 2);
            due("the one begun last is still in", x.operand(0, 1), 0x803);
        });
        test("6", "that field's bits of the word become the value's", () -> {
            PatternTableIsa x = made(BoundariesTest::oneOverAllWords);
            due("the lowest bit set", x.operand(2, 1), 0xA5B);
            due("the highest bit cleared", x.operand(1, 0), 0x25B);
            due("the highest bit set", x.operand(1, -1), 0xA5B);
            due("the lowest bit cleared", x.operand(2, 0), 0xA5A);
            due("all bits set", x.operand(0, 4095), 4095);
            due("all bits cleared", x.operand(0, 0), 0);
        });
        test("6", "it has no such field: BAD_FIELD (until it is given one)", () -> {
            PatternTableIsa x = made(BoundariesTest::oneBegun);
            due("operand(2, 1)", x.operand(2, 1), BAD_FIELD);
            due("field(0, 0, 1, false)", x.field(0, 0, 1, false), 2);
            due("operand(2, 1), the word as it stood", x.operand(2, 1), 0x15B);
        });
        test("6", "it has no such field: BAD_FIELD", BoundariesTest::operandWithoutField);
        test("6", "the value is none of the field's values: BAD_VALUE (unsigned)", () -> valuesBeside(false));
        test("6", "the value is none of the field's values: BAD_VALUE (signed)", () -> valuesBeside(true));
    }

    private static void begunPatternIsOut() {
        refused("the last of two", BoundariesTest::begunOneTakenOut, x -> x.operand(0, 1), NO_PATTERN);
        Calls only = x -> {
            oneBegun(x);
            x.dropLast();
        };
        refused("the only one", only, x -> x.operand(0, 1), NO_PATTERN);
        Calls below = x -> {
            threeWithTheMiddleBegun(x);
            x.dropLast();
            x.dropLast();
        };
        refused("the second of three", below, x -> x.operand(0, 1), NO_PATTERN);
        Calls sixteenth = x -> {
            sixteenWithTheLastBegun(x);
            x.dropLast();
        };
        refused("the sixteenth", sixteenth, x -> x.operand(0, 1), NO_PATTERN);
    }

    private static void laterOneHasItsNumber() {
        refused("the same pattern added again", BoundariesTest::itsNumberTakenAgain,
                x -> x.operand(0, 1), NO_PATTERN);
        Calls first = x -> {
            oneBegun(x);
            x.dropLast();
            oneOverAllWordsNotBegun(x);
        };
        refused("another one, number 0", first, x -> x.operand(0, 1), NO_PATTERN);
        Calls sixteenth = x -> {
            sixteenWithTheLastBegun(x);
            x.dropLast();
            x.add(0xF00, 0xF00);
            x.field(15, 0, 8, true);
        };
        refused("another one, number 15", sixteenth, x -> x.operand(0, 1), NO_PATTERN);
        Calls below = x -> {
            threeWithTheMiddleBegun(x);
            x.dropLast();
            x.dropLast();
            x.add(0xC01, 0x801);
            x.field(1, 1, 9, true);
            x.add(0xFF0, 0x330);
        };
        refused("another one that isn't the last", below, x -> x.operand(0, 1), NO_PATTERN);
        PatternTableIsa x = made(BoundariesTest::itsNumberTakenAgain);
        due("begin(1) of the later one", x.begin(1), 0x200);
        due("operand(0, 1)", x.operand(0, 1), 0x201);
    }

    private static void oneOverAllWordsNotBegun(PatternTableIsa x) {
        x.add(0, 0);
        x.field(0, 0, 12, false);
    }

    private static void operandWithoutField() {
        Calls bare = x -> {
            oneWithoutFields(x);
            x.begin(0);
        };
        for (int f : new int[] {0, 1, 2, 3, -1, MIN, MAX}) {
            refused("operand(" + f + ", 0) of no field", bare, x -> x.operand(f, 0), BAD_FIELD);
        }
        for (int f : new int[] {-1, -2, 2, 3, 4, 32, MIN, MAX}) {
            refused("operand(" + f + ", 0) of two fields", BoundariesTest::oneBegun,
                    x -> x.operand(f, 0), BAD_FIELD);
        }
        for (int f : new int[] {-1, -3, 3, 4, 6, MIN, MAX}) {
            refused("operand(" + f + ", 0) of three fields", BoundariesTest::threeWithTheMiddleBegun,
                    x -> x.operand(f, 0), BAD_FIELD);
            refused("operand(" + f + ", 0) of pattern 15", BoundariesTest::sixteenWithTheLastBegun,
                    x -> x.operand(f, 0), BAD_FIELD);
        }
    }

    private static void valuesBeside(boolean signed) {
        for (int size = 1; size <= 12; size++) {
            int s = size;
            int count = 1 << size;
            int least = signed ? -(count / 2) : 0;
            int most = least + count - 1;
            // The least and the greatest are right (Terms); these are just beside them, or have
            // the low bits of a right value.
            int[] beside = {least - 1, most + 1, least - count, most + count, 4096, -4097, 1 << 16, MIN, MAX};
            Calls begun = x -> {
                x.add(0, 0);
                x.field(0, 12 - s, s, signed);
                x.field(0, 0, 12, false);
                x.field(0, 0, 1, false);
                x.begin(0);
                x.operand(1, 0xA5A);
            };
            for (int value : beside) {
                refused("operand(0, " + value + ") of " + size + " bits", begun,
                        x -> x.operand(0, value), BAD_VALUE);
            }
        }
    }

    private static void promises7And8() {
        test("7", "BAD_WORD (word too small)", () -> {
            PatternTableIsa x = made(BoundariesTest::oneOverAllWords);
            for (int word : BELOW_0) {
                due("decode(" + word + ")", x.decode(word), BAD_WORD);
            }
        });
        test("7", "BAD_WORD (word too large)", () -> {
            PatternTableIsa x = made(BoundariesTest::oneOverAllWords);
            for (int word : ABOVE_4095) {
                due("decode(" + word + ")", x.decode(word), BAD_WORD);
            }
            due("decode(4096) on a new object", new PatternTableIsa().decode(4096), BAD_WORD);
        });
        test("7", "The pattern that covers the word (the first and the last word)", () -> {
            PatternTableIsa x = made(BoundariesTest::sixteen);
            due("decode(0)", x.decode(0), 0);
            due("decode(4095)", x.decode(4095), 15);
            for (int p = 1; p < 16; p++) {
                due("decode(" + ((p << 8) - 1) + ")", x.decode((p << 8) - 1), p - 1);
                due("decode(" + (p << 8) + ")", x.decode(p << 8), p);
            }
        });
        test("7", "NONE if no pattern does.", () -> {
            due("decode(0) on a new object", new PatternTableIsa().decode(0), NONE);
            due("decode(4095) on a new object", new PatternTableIsa().decode(4095), NONE);
            due("decode of the only hole 0", made(BoundariesTest::allButZero).decode(0), NONE);
            due("decode of the only hole 4095", made(BoundariesTest::allButTheLast).decode(4095), NONE);
            due("decode of one taken out", made(BoundariesTest::begunOneTakenOut).decode(0x200), NONE);
        });
        test("8", "0 if word is out of range", () -> {
            PatternTableIsa x = made(y -> {
                y.add(0, 0);
                y.field(0, 0, 12, false);
                y.field(0, 0, 12, true);
                y.field(0, 0, 1, false);
            });
            for (int f = 0; f < 3; f++) {
                for (int word : BELOW_0) {
                    due("value(" + word + ", " + f + ")", x.value(word, f), 0);
                }
                for (int word : ABOVE_4095) {
                    due("value(" + word + ", " + f + ")", x.value(word, f), 0);
                }
            }
            due("value(4095, 0), the last in range", x.value(4095, 0), 4095);
        });
        test("8", "no pattern covers it", () -> {
            due("value(4095, 0) on a new object", new PatternTableIsa().value(4095, 0), 0);
            PatternTableIsa x = made(BoundariesTest::oneBegun);
            due("value(0x0FF, 0), just below", x.value(0x0FF, 0), 0);
            due("value(0x100, 0), the first", x.value(0x100, 0), 0);
            due("value(0x101, 0), the second", x.value(0x101, 0), 1);
            due("value(0x1FF, 0), the last", x.value(0x1FF, 0), 0xFF);
            due("value(0x201, 0), just above", x.value(0x201, 0), 0);
            due("value of one taken out", made(BoundariesTest::begunOneTakenOut).value(0x2FF, 0), 0);
        });
        test("8", "or it has no such field", () -> {
            PatternTableIsa x = made(BoundariesTest::oneBegun);
            for (int f : new int[] {-1, -2, 2, 3, 4, MIN, MAX}) {
                due("value(0x1FF, " + f + ") of two fields", x.value(0x1FF, f), 0);
            }
            PatternTableIsa full = made(BoundariesTest::sixteenWithTheLastBegun);
            for (int f : new int[] {-1, 3, 4, MIN, MAX}) {
                due("value(0xFFF, " + f + ") of three fields", full.value(0xFFF, f), 0);
                due("value(0x0FF, " + f + ") of one field", full.value(0x0FF, f), 0);
            }
            due("value(0xEFF, 0) of no field", full.value(0xEFF, 0), 0);
            due("value(0x0FF, 1) of one field", full.value(0x0FF, 1), 0);
            PatternTableIsa first = made(y -> {
                y.add(0x800, 0);
                y.add(0x800, 0x800);
                y.field(1, 0, 11, false);
            });
            due("value(0x7FF, 3), which the next pattern's field 0 must not answer", first.value(0x7FF, 3), 0);
            due("value(0x7FF, 0), the pattern's neighbour has it", first.value(0x7FF, 0), 0);
        });
    }

    private static void promises9And10() {
        test("9", "How many of the 4096 words no pattern covers. (all)",
                () -> due("holes()", new PatternTableIsa().holes(), 4096));
        test("9", "How many of the 4096 words no pattern covers. (none)", () -> {
            due("holes() under one pattern", made(BoundariesTest::oneOverAllWords).holes(), 0);
            due("holes() under sixteen", made(BoundariesTest::sixteen).holes(), 0);
        });
        test("9", "How many of the 4096 words no pattern covers. (one, and all but one)", () -> {
            due("holes() without 0", made(x -> x.add(4095, 0)).holes(), 4095);
            due("holes() without 4095", made(x -> x.add(4095, 4095)).holes(), 4095);
            due("holes(), 0 alone", made(BoundariesTest::allButZero).holes(), 1);
            PatternTableIsa x = made(BoundariesTest::allButTheLast);
            due("holes(), 4095 alone", x.holes(), 1);
            due("add(4095, 4095)", x.add(4095, 4095), 12);
            due("holes()", x.holes(), 0);
            due("dropLast()", x.dropLast(), 12);
            due("holes()", x.holes(), 1);
        });
        test("10", "from not in 0 to 4095: BAD_WORD (too small)", () -> {
            PatternTableIsa x = new PatternTableIsa();
            for (int from : BELOW_0) {
                due("nextHole(" + from + ")", x.nextHole(from), BAD_WORD);
            }
        });
        test("10", "from not in 0 to 4095: BAD_WORD (too large)", () -> {
            PatternTableIsa x = new PatternTableIsa();
            PatternTableIsa full = made(BoundariesTest::oneOverAllWords);
            for (int from : ABOVE_4095) {
                due("nextHole(" + from + ")", x.nextHole(from), BAD_WORD);
                due("nextHole(" + from + ") without holes", full.nextHole(from), BAD_WORD);
            }
        });
        test("10", "The smallest word at or above 'from' that no pattern covers", () -> {
            due("nextHole(0), all are holes", new PatternTableIsa().nextHole(0), 0);
            due("nextHole(4095), all are holes", new PatternTableIsa().nextHole(4095), 4095);
            due("nextHole(0), 0 alone", made(BoundariesTest::allButZero).nextHole(0), 0);
            due("nextHole(0), 4095 alone", made(BoundariesTest::allButTheLast).nextHole(0), 4095);
            due("nextHole(4095), 4095 alone", made(BoundariesTest::allButTheLast).nextHole(4095), 4095);
            PatternTableIsa x = made(BoundariesTest::oneWithoutFields);
            due("nextHole(0x0FF), just below a pattern", x.nextHole(0x0FF), 0x0FF);
            due("nextHole(0x100), its first word", x.nextHole(0x100), 0x200);
            due("nextHole(0x1FF), its last word", x.nextHole(0x1FF), 0x200);
            due("nextHole(0x200), just above it", x.nextHole(0x200), 0x200);
        });
        test("10", "NONE if there is none.", () -> {
            due("nextHole(0) under one pattern", made(BoundariesTest::oneOverAllWords).nextHole(0), NONE);
            due("nextHole(0) under sixteen", made(BoundariesTest::sixteen).nextHole(0), NONE);
            due("nextHole(1), the hole is below", made(BoundariesTest::allButZero).nextHole(1), NONE);
            due("nextHole(4095), the hole is below", made(BoundariesTest::allButZero).nextHole(4095), NONE);
            due("nextHole(4095), all but it are holes", made(x -> x.add(4095, 4095)).nextHole(4095), NONE);
        });
    }

    private static void promise11() {
        test("11", "no such pattern: NO_PATTERN", () -> {
            due("covered(0, 0, 4095) of none", new PatternTableIsa().covered(0, 0, 4095), NO_PATTERN);
            PatternTableIsa x = made(BoundariesTest::threeWithTheMiddleBegun);
            for (int p : new int[] {-1, -8, 3, 15, 16, MIN, MAX}) {
                due("covered(" + p + ", 0, 4095) of three", x.covered(p, 0, 4095), NO_PATTERN);
            }
            PatternTableIsa full = made(BoundariesTest::sixteen);
            due("covered(15, 0, 4095) of sixteen", full.covered(15, 0, 4095), 256);
            due("covered(16, 0, 4095) of sixteen", full.covered(16, 0, 4095), NO_PATTERN);
            due("covered(-1, 0, 4095) of sixteen", full.covered(-1, 0, 4095), NO_PATTERN);
            due("one taken out", made(BoundariesTest::begunOneTakenOut).covered(1, 0, 4095), NO_PATTERN);
        });
        test("11", "from or to not in 0 to 4095: BAD_WORD (from)", () -> {
            PatternTableIsa x = made(BoundariesTest::oneOverAllWords);
            for (int from : BELOW_0) {
                due("covered(0, " + from + ", 4095)", x.covered(0, from, 4095), BAD_WORD);
            }
            for (int from : ABOVE_4095) {
                due("covered(0, " + from + ", 4095)", x.covered(0, from, 4095), BAD_WORD);
            }
        });
        test("11", "from or to not in 0 to 4095: BAD_WORD (to)", () -> {
            PatternTableIsa x = made(BoundariesTest::oneOverAllWords);
            for (int to : BELOW_0) {
                due("covered(0, 0, " + to + ")", x.covered(0, 0, to), BAD_WORD);
            }
            for (int to : ABOVE_4095) {
                due("covered(0, 0, " + to + ")", x.covered(0, 0, to), BAD_WORD);
            }
            due("covered(0, -1, 4096)", x.covered(0, -1, 4096), BAD_WORD);
            due("covered(0, MIN, MAX)", x.covered(0, MIN, MAX), BAD_WORD);
        });
        test("11", "from > to: 0", () -> {
            PatternTableIsa x = made(BoundariesTest::oneOverAllWords);
            due("covered(0, 1, 0)", x.covered(0, 1, 0), 0);
            due("covered(0, 4095, 4094)", x.covered(0, 4095, 4094), 0);
            due("covered(0, 4095, 0)", x.covered(0, 4095, 0), 0);
            due("covered(0, 2001, 2000)", x.covered(0, 2001, 2000), 0);
        });
        test("11", "from 'from' to 'to' (both counted in)", () -> {
            PatternTableIsa all = made(BoundariesTest::oneOverAllWords);
            due("covered(0, 0, 0)", all.covered(0, 0, 0), 1);
            due("covered(0, 4095, 4095)", all.covered(0, 4095, 4095), 1);
            due("covered(0, 0, 4095)", all.covered(0, 0, 4095), 4096);
            due("covered(0, 0, 4094)", all.covered(0, 0, 4094), 4095);
            due("covered(0, 1, 4095)", all.covered(0, 1, 4095), 4095);
            PatternTableIsa x = made(BoundariesTest::oneWithoutFields);
            due("covered(0, 0x100, 0x1FF)", x.covered(0, 0x100, 0x1FF), 256);
            due("covered(0, 0x0FF, 0x200)", x.covered(0, 0x0FF, 0x200), 256);
            due("covered(0, 0x101, 0x1FE)", x.covered(0, 0x101, 0x1FE), 254);
            due("covered(0, 0, 0x100)", x.covered(0, 0, 0x100), 1);
            due("covered(0, 0, 0x0FF)", x.covered(0, 0, 0x0FF), 0);
            due("covered(0, 0x1FF, 4095)", x.covered(0, 0x1FF, 4095), 1);
            due("covered(0, 0x200, 4095)", x.covered(0, 0x200, 4095), 0);
        });
        test("11", "Tests in this order", () -> {
            PatternTableIsa x = made(BoundariesTest::oneOverAllWords);
            due("NO_PATTERN before BAD_WORD of from", x.covered(1, -1, 0), NO_PATTERN);
            due("NO_PATTERN before BAD_WORD of to", x.covered(1, 0, 4096), NO_PATTERN);
            due("NO_PATTERN before 0", x.covered(1, 1, 0), NO_PATTERN);
            due("BAD_WORD of from before 0", x.covered(0, 4096, 0), BAD_WORD);
            due("BAD_WORD of to before 0", x.covered(0, 0, -1), BAD_WORD);
            due("BAD_WORD of both before 0", x.covered(0, 4097, 4096), BAD_WORD);
            due("NO_PATTERN before all", x.covered(-1, 4096, -1), NO_PATTERN);
        });
    }

    private static void promise12() {
        test("12", "NO_PATTERN", () -> {
            due("nextWord(0, 0) of none", new PatternTableIsa().nextWord(0, 0), NO_PATTERN);
            PatternTableIsa x = made(BoundariesTest::threeWithTheMiddleBegun);
            for (int p : new int[] {-1, -8, 3, 15, 16, MIN, MAX}) {
                due("nextWord(" + p + ", 0) of three", x.nextWord(p, 0), NO_PATTERN);
            }
            PatternTableIsa full = made(BoundariesTest::sixteen);
            due("nextWord(15, 0) of sixteen", full.nextWord(15, 0), 0xF00);
            due("nextWord(16, 0) of sixteen", full.nextWord(16, 0), NO_PATTERN);
            due("nextWord(-1, 0) of sixteen", full.nextWord(-1, 0), NO_PATTERN);
            due("one taken out", made(BoundariesTest::begunOneTakenOut).nextWord(1, 0), NO_PATTERN);
        });
        test("12", "from not in 0 to 4095: BAD_WORD (too small)", () -> {
            PatternTableIsa x = made(BoundariesTest::oneOverAllWords);
            for (int from : BELOW_0) {
                due("nextWord(0, " + from + ")", x.nextWord(0, from), BAD_WORD);
            }
        });
        test("12", "from not in 0 to 4095: BAD_WORD (too large)", () -> {
            PatternTableIsa x = made(BoundariesTest::oneOverAllWords);
            for (int from : ABOVE_4095) {
                due("nextWord(0, " + from + ")", x.nextWord(0, from), BAD_WORD);
            }
        });
        test("12", "The smallest word at or above 'from' that the pattern covers", () -> {
            PatternTableIsa all = made(BoundariesTest::oneOverAllWords);
            due("nextWord(0, 0)", all.nextWord(0, 0), 0);
            due("nextWord(0, 4095)", all.nextWord(0, 4095), 4095);
            due("4095 alone, from 0", made(x -> x.add(4095, 4095)).nextWord(0, 0), 4095);
            due("4095 alone, from 4095", made(x -> x.add(4095, 4095)).nextWord(0, 4095), 4095);
            due("0 alone, from 0", made(x -> x.add(4095, 0)).nextWord(0, 0), 0);
            PatternTableIsa x = made(BoundariesTest::oneWithoutFields);
            due("nextWord(0, 0x0FF), just below", x.nextWord(0, 0x0FF), 0x100);
            due("nextWord(0, 0x100), the first", x.nextWord(0, 0x100), 0x100);
            due("nextWord(0, 0x101), the second", x.nextWord(0, 0x101), 0x101);
            due("nextWord(0, 0x1FF), the last", x.nextWord(0, 0x1FF), 0x1FF);
            PatternTableIsa three = made(BoundariesTest::threeWithTheMiddleBegun);
            due("another pattern's words don't count", three.nextWord(1, 0x400), 0x801);
            due("nextWord(1, 0x802), a gap in the pattern", three.nextWord(1, 0x802), 0x803);
        });
        test("12", "NONE if there is none.", () -> {
            PatternTableIsa x = made(BoundariesTest::oneWithoutFields);
            due("nextWord(0, 0x200), just above the last", x.nextWord(0, 0x200), NONE);
            due("nextWord(0, 4095)", x.nextWord(0, 4095), NONE);
            due("0 alone, from 1", made(y -> y.add(4095, 0)).nextWord(0, 1), NONE);
            due("0 alone, from 4095", made(y -> y.add(4095, 0)).nextWord(0, 4095), NONE);
        });
    }

    private static void promise13() {
        test("13", "add", () -> {
            Calls full = BoundariesTest::sixteenWithTheLastBegun;
            // In this state every right pattern overlaps one of the table too.
            refused("mask below 0, in a full table", full, x -> x.add(-1, 0), BAD_PATTERN);
            refused("mask above 4095, in a full table", full, x -> x.add(4096, 0), BAD_PATTERN);
            refused("bits below 0, in a full table", full, x -> x.add(4095, -1), BAD_PATTERN);
            refused("bits above 4095, in a full table", full, x -> x.add(4095, 4096), BAD_PATTERN);
            refused("a bit outside, in a full table", full, x -> x.add(0, 1), BAD_PATTERN);
            Calls all = BoundariesTest::oneOverAllWords;
            refused("mask below 0, and overlap", all, x -> x.add(-1, 0), BAD_PATTERN);
            refused("mask above 4095, and overlap", all, x -> x.add(4096, 0), BAD_PATTERN);
            refused("bits below 0, and overlap", all, x -> x.add(4095, -1), BAD_PATTERN);
            refused("bits above 4095, and overlap", all, x -> x.add(4095, 4096), BAD_PATTERN);
            refused("a bit outside, and overlap", all, x -> x.add(0, 1), BAD_PATTERN);
        });
        test("13", "in add FULL before OVERLAP", () -> {
            Calls full = BoundariesTest::sixteenWithTheLastBegun;
            refused("the first again", full, x -> x.add(0xF00, 0), FULL);
            refused("the last again", full, x -> x.add(0xF00, 0xF00), FULL);
            refused("over all words", full, x -> x.add(0, 0), FULL);
            Calls small = BoundariesTest::sixteenSmall;
            refused("one of sixteen words again", small, x -> x.add(4095, 15), FULL);
            PatternTableIsa x = made(small);
            x.dropLast();
            due("with fifteen it is OVERLAP", x.add(4095, 14), OVERLAP);
        });
        test("13", "field", () -> {
            Calls three = BoundariesTest::threeWithTheMiddleBegun;
            refused("NO_PATTERN before low", three, x -> x.field(3, 12, 1, false), NO_PATTERN);
            refused("NO_PATTERN before size", three, x -> x.field(-1, 0, 0, false), NO_PATTERN);
            refused("NO_PATTERN before low + size", three, x -> x.field(3, 11, 2, true), NO_PATTERN);
            refused("NO_PATTERN before all", three, x -> x.field(MAX, MIN, MAX, true), NO_PATTERN);
        });
        test("13", "in field BAD_FIELD before FULL", () -> {
            Calls full = BoundariesTest::sixteenWithTheLastBegun;
            refused("low below 0", full, x -> x.field(15, -1, 1, false), BAD_FIELD);
            refused("low above 11", full, x -> x.field(15, 12, 1, false), BAD_FIELD);
            refused("size below 1", full, x -> x.field(15, 0, 0, false), BAD_FIELD);
            refused("size above 12", full, x -> x.field(15, 0, 13, false), BAD_FIELD);
            refused("low + size above 12", full, x -> x.field(15, 7, 6, false), BAD_FIELD);
            refused("a bit in the mask", full, x -> x.field(15, 7, 2, false), BAD_FIELD);
        });
        test("13", "operand", () -> {
            Calls out = BoundariesTest::itsNumberTakenAgain;
            refused("NO_PATTERN before BAD_FIELD, none begun", BoundariesTest::oneWithoutFields,
                    x -> x.operand(0, 0), NO_PATTERN);
            refused("NO_PATTERN before BAD_FIELD, taken out", out, x -> x.operand(3, 0), NO_PATTERN);
            refused("NO_PATTERN before BAD_VALUE, taken out", out, x -> x.operand(0, 256), NO_PATTERN);
            refused("NO_PATTERN before both", out, x -> x.operand(-1, MAX), NO_PATTERN);
            Calls begun = BoundariesTest::oneBegun;
            refused("BAD_FIELD before BAD_VALUE, too large", begun, x -> x.operand(2, 4096), BAD_FIELD);
            refused("BAD_FIELD before BAD_VALUE, too small", begun, x -> x.operand(-1, MIN), BAD_FIELD);
            refused("BAD_VALUE last", begun, x -> x.operand(1, 2), BAD_VALUE);
        });
        test("13", "nextWord", () -> {
            PatternTableIsa x = made(BoundariesTest::oneWithoutFields);
            due("NO_PATTERN before BAD_WORD, from too small", x.nextWord(1, -1), NO_PATTERN);
            due("NO_PATTERN before BAD_WORD, from too large", x.nextWord(-1, 4096), NO_PATTERN);
            due("BAD_WORD before NONE", x.nextWord(0, 4096), BAD_WORD);
            due("NONE last", x.nextWord(0, 4095), NONE);
        });
    }

    private static void queriesChangeNothing() {
        test("Terms", "The calls below change nothing. (decode)", () -> {
            for (int word : new int[] {-1, 0, 0x1FF, 0x200, 0x801, 4095, 4096, MIN, MAX}) {
                inEveryState("decode(" + word + ")", x -> x.decode(word));
            }
        });
        test("Terms", "The calls below change nothing. (value)", () -> {
            for (int field : new int[] {-1, 0, 1, 2, 3}) {
                for (int word : new int[] {-1, 0, 0x1FF, 0x801, 4095, 4096}) {
                    inEveryState("value(" + word + ", " + field + ")", x -> x.value(word, field));
                }
            }
        });
        test("Terms", "The calls below change nothing. (holes)", () -> inEveryState("holes()", x -> x.holes()));
        test("Terms", "The calls below change nothing. (nextHole)", () -> {
            for (int from : new int[] {-1, 0, 0x1FF, 4095, 4096}) {
                inEveryState("nextHole(" + from + ")", x -> x.nextHole(from));
            }
        });
        test("Terms", "The calls below change nothing. (covered)", () -> {
            for (int p : new int[] {-1, 0, 1, 15, 16}) {
                inEveryState("covered(" + p + ", 0, 4095)", x -> x.covered(p, 0, 4095));
                inEveryState("covered(" + p + ", 4095, 0)", x -> x.covered(p, 4095, 0));
                inEveryState("covered(" + p + ", -1, 4096)", x -> x.covered(p, -1, 4096));
            }
        });
        test("Terms", "The calls below change nothing. (nextWord)", () -> {
            for (int p : new int[] {-1, 0, 1, 15, 16}) {
                for (int from : new int[] {-1, 0, 0x1FF, 4095, 4096}) {
                    inEveryState("nextWord(" + p + ", " + from + ")", x -> x.nextWord(p, from));
                }
            }
        });
    }

    private static void inEveryState(String name, Call call) {
        changesNothing(name + " on a new object", BoundariesTest::nothing, call);
        changesNothing(name + " with one begun", BoundariesTest::oneBegun, call);
        changesNothing(name + " with the middle one begun", BoundariesTest::threeWithTheMiddleBegun, call);
        changesNothing(name + " with the begun one out", BoundariesTest::itsNumberTakenAgain, call);
        changesNothing(name + " in a full table", BoundariesTest::sixteenWithTheLastBegun, call);
        changesNothing(name + " under one pattern", BoundariesTest::oneOverAllWords, call);
    }
}
