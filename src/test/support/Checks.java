/** What the tests share: telling answers that are not due, and putting whole texts on the pad. */
public final class Checks {
    static final int NO_SUCH = QuarryBlends.NO_SUCH, BAD_VALUE = QuarryBlends.BAD_VALUE, BAD_TEXT = QuarryBlends.BAD_TEXT;
    static final int TOO_MANY = QuarryBlends.TOO_MANY, NOT_POSSIBLE = QuarryBlends.NOT_POSSIBLE, NONE = QuarryBlends.NONE;
    static final int TRUCKS = QuarryBlends.TRUCKS, LOAD = QuarryBlends.LOAD, HOURS = QuarryBlends.HOURS;
    static final int GAP = QuarryBlends.GAP, CRUSH = QuarryBlends.CRUSH, COST = QuarryBlends.COST;

    private static int made = 0;
    private static int wrong = 0;

    private Checks() {
    }

    static void due(String call, long got, long want) {
        made++;
        if (got != want) {
            wrong++;
            System.out.println(call + " answered " + got + ", due is " + want);
        }
    }

    static void due(String what, String got, String want) {
        made++;
        if (!got.equals(want)) {
            wrong++;
            System.out.println(what + " is\n  " + got + "\ndue is\n  " + want);
        }
    }

    static void end() {
        System.out.println(made + " answers looked at, " + wrong + " not as due");
        if (wrong != 0 || made == 0) {
            System.exit(1);
        }
    }

    static boolean anyWrong() {
        return wrong != 0;
    }

    static long packed(String characters) {
        long packed = 0;
        for (int i = 0; i < characters.length(); i++) {
            packed = packed << 8 | characters.charAt(i);
        }
        return packed;
    }

    /** Puts a text of any length, eight characters a call. */
    static void putText(QuarryBlends x, String text) {
        for (int from = 0; from < text.length(); from += 8) {
            String part = text.substring(from, Math.min(text.length(), from + 8));
            int before = x.count(17);
            due("put(\"" + part + "\")", x.put(packed(part)), before + part.length());
        }
    }

    /** Crushes so many tonnes (100 at most) of a new face at once, in a day of two hours. */
    static void crushAtOnce(QuarryBlends x, int tonnes, int hardness, int gap) {
        x.set(TRUCKS, 5);
        x.set(LOAD, 20);
        x.set(HOURS, 2);
        x.set(CRUSH, 200);
        x.set(GAP, gap);
        x.face(tonnes, hardness, 1);
        x.pass(1);
    }

    /** All that can be asked about the quarry, but for what would be, the pad and the history. */
    static String stateOf(QuarryBlends x) {
        StringBuilder state = new StringBuilder("counts");
        for (int what = 0; what <= 16; what++) {
            state.append(' ').append(x.count(what));
        }
        state.append("; bins ").append(x.bin(0)).append(' ').append(x.bin(1)).append(' ').append(x.bin(2)).append("; waiting");
        for (int hardness = 1; hardness <= 9; hardness++) {
            state.append(' ').append(x.waiting(hardness));
        }
        for (int face = 0; face < x.count(1); face++) {
            state.append("; face");
            for (int what = 0; what <= 4; what++) {
                state.append(' ').append(x.ofFace(face, what));
            }
        }
        for (int truck = 0; truck < x.count(11); truck++) {
            state.append("; truck");
            for (int what = 0; what <= 3; what++) {
                state.append(' ').append(x.truck(truck, what));
            }
        }
        for (int contract = 0; contract < x.count(2); contract++) {
            state.append("; contract");
            for (int what = 0; what <= 8; what++) {
                state.append(' ').append(x.ofContract(contract, what));
            }
        }
        return state.toString();
    }
}
