import java.util.ArrayList;
import java.util.List;

/**
 * Long runs of mixed calls, right and wrong, against a model that holds each pattern as the set of
 * its words and each word as its twelve bits, so that it shares no arithmetic with the class.
 */
public final class ModelTest {
    private static final int RUNS = 400;
    private static final int CALLS = 512;
    private static final int[] ODD = {-1, -2, -8, 12, 13, 16, 31, 32, 33, 4095, 4096, 4097, Integer.MIN_VALUE, Integer.MAX_VALUE};

    private static final class Part {
        int low;
        int size;
        boolean signed;

        int valueIn(boolean[] word) {
            int sum = 0;
            int weight = 1;
            for (int i = 0; i < size; i++) {
                boolean isSign = signed && i == size - 1;
                if (word[low + i]) {
                    sum += isSign ? -weight : weight;
                }
                weight *= 2;
            }
            return sum;
        }
    }

    private static final class Entry {
        boolean[] inMask;
        int bits;
        boolean[] words = new boolean[4096];
        List<Part> parts = new ArrayList<>();
    }

    private static final class Model {
        final List<Entry> table = new ArrayList<>();
        Entry begun = null;
        int word = 0;

        int add(int mask, int bits) {
            if (mask < 0 || mask > 4095 || bits < 0 || bits > 4095) return -1;
            boolean[] m = bitsOf(mask);
            boolean[] b = bitsOf(bits);
            for (int i = 0; i < 12; i++) if (b[i] && !m[i]) return -1;
            if (table.size() == 16) return -3;
            Entry entry = new Entry();
            entry.inMask = m;
            entry.bits = bits;
            for (int w = 0; w < 4096; w++) {
                boolean[] c = bitsOf(w);
                boolean same = true;
                for (int i = 0; i < 12; i++) same = same && (!m[i] || c[i] == b[i]);
                entry.words[w] = same;
            }
            for (Entry other : table) {
                for (int w = 0; w < 4096; w++) if (other.words[w] && entry.words[w]) return -2;
            }
            table.add(entry);
            return table.size() - 1;
        }

        int field(int pattern, int low, int size, boolean signed) {
            if (pattern < 0 || pattern >= table.size()) return -4;
            if (low < 0 || low > 11 || size < 1 || size > 12 || low + size > 12) return -5;
            Entry entry = table.get(pattern);
            for (int i = low; i < low + size; i++) if (entry.inMask[i]) return -5;
            if (entry.parts.size() == 3) return -3;
            Part part = new Part();
            part.low = low;
            part.size = size;
            part.signed = signed;
            entry.parts.add(part);
            return entry.parts.size() - 1;
        }

        int dropLast() {
            if (table.isEmpty()) return -4;
            table.remove(table.size() - 1);
            return table.size();
        }

        int begin(int pattern) {
            if (pattern < 0 || pattern >= table.size()) return -4;
            begun = table.get(pattern);
            word = begun.bits;
            return word;
        }

        int operand(int field, int value) {
            if (begun == null || !table.contains(begun)) return -4;
            if (field < 0 || field >= begun.parts.size()) return -5;
            Part part = begun.parts.get(field);
            boolean[] now = bitsOf(word);
            for (int tried = 0; tried < power(part.size); tried++) {
                boolean[] trial = bitsOf(tried);
                for (int i = 0; i < part.size; i++) now[part.low + i] = trial[i];
                if (part.valueIn(now) == value) {
                    word = numberOf(now);
                    return word;
                }
            }
            return -6;
        }

        int decode(int w) {
            if (w < 0 || w > 4095) return -7;
            for (int p = 0; p < table.size(); p++) if (table.get(p).words[w]) return p;
            return -8;
        }

        int value(int w, int field) {
            int p = decode(w);
            if (p < 0 || field < 0 || field >= table.get(p).parts.size()) return 0;
            return table.get(p).parts.get(field).valueIn(bitsOf(w));
        }

        int holes() {
            int sum = 0;
            for (int w = 0; w < 4096; w++) if (decode(w) == -8) sum++;
            return sum;
        }

        int nextHole(int from) {
            if (from < 0 || from > 4095) return -7;
            for (int w = from; w < 4096; w++) if (decode(w) == -8) return w;
            return -8;
        }

        int covered(int pattern, int from, int to) {
            if (pattern < 0 || pattern >= table.size()) return -4;
            if (from < 0 || from > 4095 || to < 0 || to > 4095) return -7;
            int sum = 0;
            for (int w = 0; w < 4096; w++) if (w >= from && w <= to && table.get(pattern).words[w]) sum++;
            return sum;
        }

        int nextWord(int pattern, int from) {
            if (pattern < 0 || pattern >= table.size()) return -4;
            if (from < 0 || from > 4095) return -7;
            for (int w = from; w < 4096; w++) if (table.get(pattern).words[w]) return w;
            return -8;
        }
    }

    private static boolean[] bitsOf(int word) {
        boolean[] bits = new boolean[12];
        for (int i = 0; i < 12; i++) {
            bits[i] = word % 2 == 1;
            word /= 2;
        }
        return bits;
    }

    private static int numberOf(boolean[] bits) {
        int sum = 0;
        for (int i = 11; i >= 0; i--) sum = sum * 2 + (bits[i] ? 1 : 0);
        return sum;
    }

    private static int power(int exponent) {
        int product = 1;
        for (int i = 0; i < exponent; i++) product *= 2;
        return product;
    }

    private static long seed;
    private static int wrong = 0;
    private static final int[] met = new int[9];

    // A fixed sequence instead of a random source: every run of the test makes the same calls.
    private static int pick(int bound) {
        seed = seed * 6364136223846793005L + 1442695040888963407L;
        return (int) ((seed >>> 33) % bound);
    }

    private static int oddOr(int usual) {
        return pick(12) == 0 ? ODD[pick(ODD.length)] : usual;
    }

    private static void same(int run, String call, int got, int want) {
        if (want < 0 && want >= -8) {
            met[-want]++;
        }
        if (got != want) {
            wrong++;
            if (wrong <= 20) {
                System.out.println("run " + run + ": " + call + " answered " + got + ", due is " + want);
            }
        }
    }

    private static void change(int run, PatternTableIsa x, Model m, int tableBits) {
        int kind = pick(20);
        if (kind < 6) {
            int mask = oddOr(pick(3) == 0 ? tableBits : tableBits | (1 << pick(12)));
            int bits = oddOr(pick(8) == 0 ? pick(4096) : pick(4096) & mask);
            same(run, "add(" + mask + ", " + bits + ")", x.add(mask, bits), m.add(mask, bits));
        } else if (kind < 12) {
            int p = oddOr(pick(m.table.size() + 1));
            int low = oddOr(pick(12));
            int size = oddOr(1 + pick(pick(2) == 0 ? 3 : 12));
            boolean signed = pick(2) == 0;
            same(run, "field(" + p + ", " + low + ", " + size + ", " + signed + ")",
                    x.field(p, low, size, signed), m.field(p, low, size, signed));
        } else if (kind < 13) {
            same(run, "dropLast()", x.dropLast(), m.dropLast());
        } else if (kind < 15) {
            // The last pattern often, so that a later dropLast takes the begun one out.
            int p = oddOr(pick(2) == 0 ? m.table.size() - 1 : pick(m.table.size() + 1));
            same(run, "begin(" + p + ")", x.begin(p), m.begin(p));
        } else {
            int f = oddOr(pick(3));
            int v = oddOr(pick(2) == 0 ? pick(9) - 4 : pick(8192) - 4096);
            same(run, "operand(" + f + ", " + v + ")", x.operand(f, v), m.operand(f, v));
        }
    }

    private static void ask(int run, PatternTableIsa x, Model m) {
        int p = oddOr(pick(m.table.size() + 1));
        int from = oddOr(pick(4096));
        int to = oddOr(pick(4096));
        int f = oddOr(pick(3));
        switch (pick(6)) {
            case 0 -> same(run, "decode(" + from + ")", x.decode(from), m.decode(from));
            case 1 -> same(run, "value(" + from + ", " + f + ")", x.value(from, f), m.value(from, f));
            case 2 -> same(run, "holes()", x.holes(), m.holes());
            case 3 -> same(run, "nextHole(" + from + ")", x.nextHole(from), m.nextHole(from));
            case 4 -> same(run, "covered(" + p + ", " + from + ", " + to + ")", x.covered(p, from, to), m.covered(p, from, to));
            default -> same(run, "nextWord(" + p + ", " + from + ")", x.nextWord(p, from), m.nextWord(p, from));
        }
    }

    public static void main(String[] args) {
        for (int run = 1; run <= RUNS; run++) {
            seed = run;
            PatternTableIsa x = new PatternTableIsa();
            Model m = new Model();
            // Patterns that share some mask bits, so that many of them fit beside each other.
            int tableBits = 0;
            int shared = pick(6);
            for (int i = 0; i < shared; i++) {
                tableBits |= 1 << pick(12);
            }
            for (int call = 0; call < CALLS; call++) {
                if (pick(2) == 0) {
                    change(run, x, m, tableBits);
                } else {
                    ask(run, x, m);
                }
            }
        }
        // Without this, a change of the sequence above could leave an answer unmet unseen.
        for (int answer = 1; answer <= 8; answer++) {
            if (met[answer] < 100) {
                wrong++;
                System.out.println("the answer -" + answer + " was met only " + met[answer] + " times");
            }
        }
        System.out.println(wrong == 0 ? "all answers are as due" : wrong + " answers are not as due");
        if (wrong != 0) {
            System.exit(1);
        }
    }
}
