/** The example of README.md, call by call: who follows it must get the answers that it tells. */
public final class ReadmeTest {
    private static int wrong = 0;

    private static void due(String call, int got, int want) {
        if (got != want) {
            wrong++;
            System.out.println(call + " answered " + got + ", README.md says " + want);
        }
    }

    public static void main(String[] args) {
        PatternTableIsa isa = new PatternTableIsa();
        int load = isa.add(0xF00, 0x100);
        due("add(0xF00, 0x100)", load, 0);
        due("field(load, 4, 4, false)", isa.field(load, 4, 4, false), 0);
        due("field(load, 0, 4, true)", isa.field(load, 0, 4, true), 1);
        due("begin(load)", isa.begin(load), 0x100);
        due("operand(0, 9)", isa.operand(0, 9), 0x190);
        due("operand(1, -2)", isa.operand(1, -2), 0x19E);
        due("operand(1, 8)", isa.operand(1, 8), PatternTableIsa.BAD_VALUE);
        due("decode(0x19E)", isa.decode(0x19E), 0);
        due("value(0x19E, 1)", isa.value(0x19E, 1), -2);
        due("decode(0x200)", isa.decode(0x200), PatternTableIsa.NONE);
        due("holes()", isa.holes(), 3840);
        due("nextHole(0x100)", isa.nextHole(0x100), 0x200);
        due("covered(load, 0x1F0, 0x2FF)", isa.covered(load, 0x1F0, 0x2FF), 16);
        due("nextWord(load, 0)", isa.nextWord(load, 0), 0x100);
        due("dropLast()", isa.dropLast(), 0);
        due("operand(0, 9) after dropLast()", isa.operand(0, 9), PatternTableIsa.NO_PATTERN);
        System.out.println(wrong == 0 ? "all answers are as README.md says" : wrong + " answers are not as README.md says");
        if (wrong != 0) {
            System.exit(1);
        }
    }
}
