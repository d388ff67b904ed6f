/** What the tests share: telling answers that are not due, and putting whole texts on the pad. */
public final class Checks {
    static final int NO_SUCH = QuarryBlends.NO_SUCH, BAD_VALUE = QuarryBlends.BAD_VALUE, BAD_TEXT = QuarryBlends.BAD_TEXT;
    static final int TOO_MANY = QuarryBlends.TOO_MANY, NOT_POSSIBLE = QuarryBlends.NOT_POSSIBLE, NONE = QuarryBlends.NONE;
    static final int TRUCKS = QuarryBlends.TRUCKS, LOAD = QuarryBlends.LOAD, HOURS = QuarryBlends.HOURS;
    static final int GAP = QuarryBlends.GAP, CRUSH = QuarryBlends.CRUSH, COST = QuarryBlends.COST;

    private static final int MOST_TOLD = 50;
    private static int made = 0;
    private static int wrong = 0;
    private static String about = "";

    private Checks() {
    }

    /** Tells what the checks that follow are about, for those that fail. */
    static void about(String itsAbout) {
        about = itsAbout.isEmpty() ? "" : itsAbout + ": ";
    }

    static int made() {
        return made;
    }

    static void due(String call, long got, long want) {
        made++;
        if (got != want) {
            tellWrong(call + " answered " + got + ", due is " + want);
        }
    }

    static void due(String what, String got, String want) {
        made++;
        if (!got.equals(want)) {
            tellWrong(what + " is\n  " + got + "\ndue is\n  " + want);
        }
    }

    private static void tellWrong(String what) {
        wrong++;
        if (wrong <= MOST_TOLD) {
            System.out.println(about + what);
        }
    }

    static void end() {
        System.out.println(made + " answers looked at, " + wrong + " not as due");
        if (wrong != 0 || made == 0) {
            System.exit(1);
        }
    }

    static boolean anyWrong() {
        return wrong != 0;
    }

    static long packed(String characters) {
        long packed = 0;
        for (int i = 0; i < characters.length(); i++) {
            packed = packed << 8 | characters.charAt(i);
        }
        return packed;
    }

    /** Puts a text of any length, eight characters a call. */
    static void putText(QuarryBlends x, String text) {
        for (int from = 0; from < text.length(); from += 8) {
            String part = text.substring(from, Math.min(text.length(), from + 8));
            int before = x.count(17);
            due("put(\"" + part + "\")", x.put(packed(part)), before + part.length());
        }
    }

    /** Numbers that aren't from the least to the most one: next to them, far off, and such as narrow numbers wrap around to them. */
    static int[] outside(int least, int most) {
        int[] some = {least - 1, most + 1, Integer.MIN_VALUE, Integer.MAX_VALUE, least + (1 << 8), least + (1 << 16), most - (1 << 8),
            most - (1 << 16), Integer.MIN_VALUE + least, Integer.MAX_VALUE - most, ~least, ~most};
        return java.util.Arrays.stream(some).filter(number -> number < least || number > most).toArray();
    }

    /** A quarry with so many tonnes in the bins (164, 72 and 164 at most), without any stone elsewhere and without contracts. */
    static QuarryBlends withBins(int fine, int middle, int coarse) {
        QuarryBlends x = new QuarryBlends();
        x.set(HOURS, 2);
        x.set(TRUCKS, 20);
        x.set(CRUSH, 200);
        // the softest stone is nearly all fine by the least gap, the hardest nearly all coarse by the most
        for (int both : new int[] {1, 9}) {
            x.set(GAP, both);
            x.face(200, both, 1);
            x.pass(1);
        }
        x.mend();
        takeOut(x, x.bin(0) - fine, 100, 0);
        takeOut(x, x.bin(1) - middle, 0, 0);
        takeOut(x, x.bin(2) - coarse, 0, 100);
        x.pass(1);
        due("the fine bin", x.bin(0), fine);
        due("the middle bin", x.bin(1), middle);
        due("the coarse bin", x.bin(2), coarse);
        due("contracts", x.count(2), 0);
        return x;
    }

    private static void takeOut(QuarryBlends x, int tonnes, int fineHundredths, int coarseHundredths) {
        if (tonnes > 0) {
            x.contract(tonnes, fineHundredths, fineHundredths, coarseHundredths, coarseHundredths, 0);
        }
    }

    /** Crushes so many tonnes (100 at most) of a new face at once, in a day of two hours. */
    static void crushAtOnce(QuarryBlends x, int tonnes, int hardness, int gap) {
        x.set(TRUCKS, 5);
        x.set(LOAD, 20);
        x.set(HOURS, 2);
        x.set(CRUSH, 200);
        x.set(GAP, gap);
        x.face(tonnes, hardness, 1);
        x.pass(1);
    }

    /** All that can be asked about the quarry, but for what would be, the pad and the history. */
    static String stateOf(QuarryBlends x) {
        StringBuilder state = new StringBuilder("counts");
        for (int what = 0; what <= 16; what++) {
            state.append(' ').append(x.count(what));
        }
        state.append("; bins ").append(x.bin(0)).append(' ').append(x.bin(1)).append(' ').append(x.bin(2)).append("; waiting");
        for (int hardness = 1; hardness <= 9; hardness++) {
            state.append(' ').append(x.waiting(hardness));
        }
        for (int face = 0; face < x.count(1); face++) {
            state.append("; face");
            for (int what = 0; what <= 4; what++) {
                state.append(' ').append(x.ofFace(face, what));
            }
        }
        for (int truck = 0; truck < x.count(11); truck++) {
            state.append("; truck");
            for (int what = 0; what <= 3; what++) {
                state.append(' ').append(x.truck(truck, what));
            }
        }
        for (int contract = 0; contract < x.count(2); contract++) {
            state.append("; contract");
            for (int what = 0; what <= 8; what++) {
                state.append(' ').append(x.ofContract(contract, what));
            }
        }
        return state.toString();
    }
}
