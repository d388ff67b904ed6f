/** Promises 1 to 7: a new object, set, face, contract, drop, mend, pass. */
public final class ChangesTest {
    private static final int NO_SUCH = Checks.NO_SUCH, BAD_VALUE = Checks.BAD_VALUE, TOO_MANY = Checks.TOO_MANY;
    private static final int NOT_POSSIBLE = Checks.NOT_POSSIBLE, NONE = Checks.NONE;
    private static final int TRUCKS = Checks.TRUCKS, LOAD = Checks.LOAD, HOURS = Checks.HOURS, CRUSH = Checks.CRUSH, COST = Checks.COST;

    public static void main(String[] args) {
        newObject();
        set();
        setKeepsHowOftenTrucksWereSent();
        setOfTrucksOnTheirWay();
        face();
        contract();
        drop();
        mend();
        passBounds();
        passHourByHour();
        passEqualFaces();
        passWear();
        passDeliversInOrder();
        passDeliversTwelve();
        passTakesTheLastTonne();
        errorsChangeNothing();
        Checks.end();
    }

    private static void newObject() {
        QuarryBlends x = new QuarryBlends();
        int[] counts = {0, 0, 0, 0, 0, 0, 0, 50, 0, 0, 0, 3, 20, 8, 5, 50, 2, 0, 0};
        for (int what = 0; what < counts.length; what++) {
            Checks.due("new: count(" + what + ")", x.count(what), counts[what]);
        }
        Checks.due("new: ofFace", x.ofFace(0, 0), NO_SUCH);
        Checks.due("new: ofContract", x.ofContract(0, 0), NO_SUCH);
        Checks.due("new: truck(2, 0)", x.truck(2, 0), NONE);
        Checks.due("new: truck(2, 3)", x.truck(2, 3), 0);
        Checks.due("new: truck(3, 3)", x.truck(3, 3), NO_SUCH);
        Checks.due("new: fault()", x.fault(), 0);
        Checks.due("new: undo()", x.undo(), NOT_POSSIBLE);
        Checks.due("new: restore(0)", x.restore(0), NOT_POSSIBLE);
        Checks.due("new: restore(1)", x.restore(1), NOT_POSSIBLE);
        new QuarryBlends().set(TRUCKS, 9);
        Checks.due("new: another object's TRUCKS", new QuarryBlends().count(11), 3);
    }

    private static void set() {
        int[] least = {0, 1, 1, 1, 1, 0};
        int[] most = {20, 40, 24, 9, 200, 99};
        int[] first = {3, 20, 8, 5, 50, 2};
        for (int setting = 0; setting < 6; setting++) {
            QuarryBlends x = new QuarryBlends();
            String name = "set(" + setting + ", ..)";
            Checks.due(name + " least", x.set(setting, least[setting]), first[setting]);
            Checks.due(name + " most", x.set(setting, most[setting]), least[setting]);
            Checks.due(name + " too low", x.set(setting, least[setting] - 1), BAD_VALUE);
            Checks.due(name + " too high", x.set(setting, most[setting] + 1), BAD_VALUE);
            Checks.due(name + " lowest int", x.set(setting, Integer.MIN_VALUE), BAD_VALUE);
            Checks.due(name + " highest int", x.set(setting, Integer.MAX_VALUE), BAD_VALUE);
            Checks.due(name + " stays", x.count(11 + setting), most[setting]);
            Checks.due(name + " again", x.set(setting, most[setting]), most[setting]);
            Checks.due(name + " is a change, errors are not", x.count(18), 3);
        }
        QuarryBlends x = new QuarryBlends();
        for (int setting : new int[] {-1, 6, Integer.MIN_VALUE, Integer.MAX_VALUE}) {
            Checks.due("set(" + setting + ", 1)", x.set(setting, 1), BAD_VALUE);
        }
    }

    private static void setKeepsHowOftenTrucksWereSent() {
        QuarryBlends x = new QuarryBlends();
        x.face(100, 5, 12);
        x.set(HOURS, 1);
        x.pass(13);
        Checks.due("two loads were left", x.count(3), 2);
        Checks.due("set(TRUCKS, 2)", x.set(TRUCKS, 2), 3);
        Checks.due("truck(2, 3) without it", x.truck(2, 3), NO_SUCH);
        Checks.due("set(TRUCKS, 20)", x.set(TRUCKS, 20), 2);
        Checks.due("truck(2, 3) when it is back", x.truck(2, 3), 1);
        Checks.due("truck(1, 3)", x.truck(1, 3), 2);
        Checks.due("truck(19, 3)", x.truck(19, 3), 0);
    }

    private static void setOfTrucksOnTheirWay() {
        QuarryBlends x = new QuarryBlends();
        x.face(100, 5, 12);
        x.set(HOURS, 1);
        x.pass(1);
        Checks.due("set(TRUCKS, 2), 3 away", x.set(TRUCKS, 2), NOT_POSSIBLE);
        Checks.due("set(TRUCKS, 0), 3 away", x.set(TRUCKS, 0), NOT_POSSIBLE);
        Checks.due("set(TRUCKS, -1), 3 away", x.set(TRUCKS, -1), BAD_VALUE);
        Checks.due("set(TRUCKS, 3), 3 away", x.set(TRUCKS, 3), 3);
        Checks.due("set(LOAD, 1), 3 away", x.set(LOAD, 1), 20);
        Checks.due("truck(2, 1), loaded as before", x.truck(2, 1), 20);
        x.pass(12);
        Checks.due("their loads came", x.count(5) + x.count(4), 60);
    }

    private static void face() {
        QuarryBlends x = new QuarryBlends();
        int[][] wrong = {{0, 1, 1}, {10000, 1, 1}, {1, 0, 1}, {1, 10, 1}, {1, 1, 0}, {1, 1, 13}, {-1, 1, 1}};
        for (int[] w : wrong) {
            Checks.due("face(" + w[0] + ", " + w[1] + ", " + w[2] + ")", x.face(w[0], w[1], w[2]), BAD_VALUE);
        }
        Checks.due("face(1, 1, 1)", x.face(1, 1, 1), 0);
        Checks.due("face(9999, 9, 12)", x.face(9999, 9, 12), 1);
        for (int face = 2; face < 8; face++) {
            Checks.due("face number " + face, x.face(100 + face, 5, 6), face);
        }
        Checks.due("face number 8", x.face(1, 1, 1), TOO_MANY);
        Checks.due("wrong face number 8", x.face(0, 1, 1), BAD_VALUE);
        Checks.due("faces", x.count(1), 8);
        Checks.due("tonnes of the last", x.ofFace(7, 0), 107);
        Checks.due("changes, 6 at most", x.count(18), 6);
    }

    private static void contract() {
        QuarryBlends x = new QuarryBlends();
        int[][] wrong = {{0, 0, 1, 0, 1, 1}, {501, 0, 1, 0, 1, 1}, {1, -1, 1, 0, 1, 1}, {1, 0, 101, 0, 1, 1}, {1, 5, 4, 0, 1, 1},
            {1, 101, 101, 0, 1, 1}, {1, 0, 1, -1, 1, 1}, {1, 0, 1, 0, 101, 1}, {1, 0, 1, 5, 4, 1}, {1, 0, 1, 101, 101, 1},
            {1, 0, 1, 0, 1, -1}, {1, 0, 1, 0, 1, 100}};
        for (int[] w : wrong) {
            String call = "contract" + java.util.Arrays.toString(w);
            Checks.due(call, x.contract(w[0], w[1], w[2], w[3], w[4], w[5]), BAD_VALUE);
        }
        Checks.due("no change yet", x.count(18), 0);
        Checks.due("least contract", x.contract(1, 0, 0, 0, 0, 0), 0);
        Checks.due("most contract", x.contract(500, 100, 100, 100, 100, 99), 1);
        for (int contract = 2; contract < 12; contract++) {
            Checks.due("contract number " + contract, x.contract(contract, 1, 2, 3, 4, 5), contract);
        }
        Checks.due("contract number 12", x.contract(1, 1, 2, 3, 4, 5), TOO_MANY);
        Checks.due("wrong contract number 12", x.contract(1, 2, 1, 3, 4, 5), BAD_VALUE);
        Checks.due("contracts", x.count(2), 12);
        int[] terms = {11, 1, 2, 3, 4, 5};
        for (int what = 0; what < terms.length; what++) {
            Checks.due("ofContract(11, " + what + ")", x.ofContract(11, what), terms[what]);
        }
    }

    private static void drop() {
        QuarryBlends x = new QuarryBlends();
        Checks.due("drop(0), none there", x.drop(0), NO_SUCH);
        for (int contract = 0; contract < 12; contract++) {
            x.contract(10 + contract, contract, 50 + contract, contract, 60 + contract, contract);
        }
        Checks.due("drop(-1)", x.drop(-1), NO_SUCH);
        Checks.due("drop(12)", x.drop(12), NO_SUCH);
        Checks.due("drop(4)", x.drop(4), 11);
        Checks.due("the one ahead", x.ofContract(3, 0), 13);
        Checks.due("the next moved up", x.ofContract(4, 0), 15);
        Checks.due("with its price", x.ofContract(4, 5), 5);
        Checks.due("the last moved up", x.ofContract(10, 4), 71);
        Checks.due("none is there now", x.ofContract(11, 0), NO_SUCH);
        Checks.due("drop(10), the last", x.drop(10), 10);
        Checks.due("drop(0)", x.drop(0), 9);
        Checks.due("the first now", x.ofContract(0, 0), 11);
        Checks.due("a new one comes behind", x.contract(99, 0, 0, 0, 0, 0), 9);
        Checks.due("with its tonnes", x.ofContract(9, 0), 99);
    }

    private static void mend() {
        QuarryBlends x = new QuarryBlends();
        Checks.due("mend() of a new one", x.mend(), 0);
        Checks.due("that is a change", x.count(18), 1);
        Checks.crushAtOnce(x, 100, 9, 5);
        x.mend();
        Checks.crushAtOnce(x, 100, 7, 5);
        Checks.crushAtOnce(x, 100, 4, 5);
        Checks.due("wear of 100 * 7 + 100 * 4", x.count(6), 1100);
        Checks.due("slower", x.count(7), 199);
        Checks.due("mend()", x.mend(), 1100);
        Checks.due("as new", x.count(7), 200);
        Checks.due("mend() again", x.mend(), 0);
    }

    private static void passBounds() {
        QuarryBlends x = new QuarryBlends();
        for (int days : new int[] {0, 31, -1, Integer.MIN_VALUE, Integer.MAX_VALUE}) {
            Checks.due("pass(" + days + ")", x.pass(days), BAD_VALUE);
        }
        x.set(HOURS, 24);
        for (int month = 0; month < 13; month++) {
            Checks.due("pass(30)", x.pass(30), 0);
        }
        Checks.due("pass(27), one too many", x.pass(27), NOT_POSSIBLE);
        Checks.due("pass(31), too late", x.pass(31), BAD_VALUE);
        Checks.due("pass(26)", x.pass(26), 0);
        Checks.due("hours", x.count(0), 9984);
        x.set(HOURS, 16);
        Checks.due("pass(1) to 10000", x.pass(1), NOT_POSSIBLE);
        x.set(HOURS, 15);
        Checks.due("pass(1) to 9999", x.pass(1), 0);
        Checks.due("hours", x.count(0), 9999);
        x.set(HOURS, 1);
        Checks.due("pass(1) behind the end", x.pass(1), NOT_POSSIBLE);
    }

    private static void stands(QuarryBlends x, String when, int... numbers) {
        int[] got = {x.bin(0), x.bin(1), x.bin(2), x.waiting(1), x.waiting(9), x.count(6), x.count(10), x.count(3)};
        Checks.due(when, java.util.Arrays.toString(got), java.util.Arrays.toString(numbers));
    }

    private static void passHourByHour() {
        QuarryBlends x = new QuarryBlends();
        x.set(HOURS, 1);
        x.set(CRUSH, 10);
        x.face(40, 9, 1);
        x.face(30, 1, 2);
        x.pass(1);
        stands(x, "hour 0: sent to 0, 1, 0", 0, 0, 0, 0, 0, 0, 8, 3);
        Checks.due("hour 0: truck 1 comes from", x.truck(1, 0), 1);
        Checks.due("hour 0: truck 2 comes from", x.truck(2, 0), 0);
        x.pass(1);
        stands(x, "hour 1: 10 hard ones crushed", 0, 6, 4, 0, 30, 90, 12, 2);
        Checks.due("hour 1: the rest is a load", x.truck(0, 1), 10);
        x.pass(1);
        stands(x, "hour 2: the softest first", 4, 12, 4, 10, 30, 100, 12, 1);
        x.pass(1);
        stands(x, "hour 3", 8, 18, 4, 10, 30, 110, 12, 0);
        x.set(CRUSH, 25);
        x.set(COST, 99);
        x.pass(1);
        stands(x, "hour 4: both, each at once", 12, 33, 10, 0, 15, 255, 12, 0);
        x.pass(2);
        Checks.due("all is crushed", x.count(4), 0);
        Checks.due("70 tonnes", x.count(5), 70);
        Checks.due("70 tonnes in the bins", x.bin(0) + x.bin(1) + x.bin(2), 70);
    }

    private static void passEqualFaces() {
        QuarryBlends x = new QuarryBlends();
        x.set(HOURS, 1);
        x.set(TRUCKS, 5);
        x.face(30, 1, 12);
        x.face(50, 1, 12);
        x.face(50, 1, 12);
        x.pass(1);
        int[] from = {1, 2, 0, 1, 2};
        for (int truck = 0; truck < from.length; truck++) {
            Checks.due("truck " + truck + " is sent to", x.truck(truck, 0), from[truck]);
        }
        x.set(HOURS, 11);
        x.pass(1);
        Checks.due("still away at the end of hour 11", x.count(3), 5);
        x.set(HOURS, 1);
        x.pass(1);
        Checks.due("back in hour 12, and sent again", x.truck(0, 3), 2);
        Checks.due("three loads of 10 tonnes were left", x.count(3), 3);
        Checks.due("a truck waits on", x.truck(4, 0), NONE);
    }

    private static void passWear() {
        QuarryBlends x = new QuarryBlends();
        x.set(HOURS, 1);
        x.set(TRUCKS, 20);
        x.set(LOAD, 40);
        x.set(CRUSH, 200);
        x.face(9999, 9, 1);
        x.pass(2);
        Checks.due("as new in the hour", x.count(5), 200);
        Checks.due("slower behind it", x.count(7), 199);
        x.pass(1);
        Checks.due("399 crushed", x.count(5), 399);
        Checks.due("wear of 399 * 9", x.count(6), 3591);
        Checks.due("slower still", x.count(7), 197);
        x.set(CRUSH, 3);
        Checks.due("a tonne at least", x.count(7), 1);
        x.pass(1);
        Checks.due("a tonne is crushed", x.count(5), 400);
    }

    private static void passDeliversInOrder() {
        QuarryBlends x = new QuarryBlends();
        Checks.crushAtOnce(x, 100, 1, 1);
        Checks.crushAtOnce(x, 100, 9, 9);
        x.contract(150, 0, 100, 0, 100, 1);
        x.contract(60, 0, 10, 0, 100, 2);
        x.contract(60, 60, 100, 0, 100, 3);
        x.contract(20, 0, 0, 0, 0, 4);
        x.contract(40, 90, 100, 0, 10, 5);
        Checks.due("then(1, 0)", x.then(1, 0), 2);
        Checks.due("pass(1)", x.pass(1), 2);
        // the first one takes 32 fine, 36 middle and 82 coarse tonnes, and leaves the others 50 fine ones
        Checks.due("paid", x.count(9), 150 + 40 * 5);
        Checks.due("delivered", x.count(8), 2);
        Checks.due("fine", x.bin(0), 10);
        Checks.due("middle", x.bin(1), 0);
        Checks.due("coarse", x.bin(2), 0);
        Checks.due("contracts left", x.count(2), 3);
        Checks.due("the one left first", x.ofContract(0, 5), 2);
        Checks.due("the one left last", x.ofContract(2, 5), 4);
    }

    private static void passDeliversTwelve() {
        QuarryBlends x = new QuarryBlends();
        Checks.crushAtOnce(x, 100, 1, 1);
        for (int contract = 0; contract < 12; contract++) {
            x.contract(1 + contract, 0, 100, 0, 100, 1);
        }
        Checks.due("pass(1)", x.pass(1), 12);
        Checks.due("paid", x.count(9), 78);
        Checks.due("none is left", x.count(2), 0);
        Checks.due("tonnes left", x.bin(0) + x.bin(1) + x.bin(2), 22);
        Checks.due("pass(1) of none", x.pass(1), 0);
    }

    private static void passTakesTheLastTonne() {
        QuarryBlends x = new QuarryBlends();
        x.set(LOAD, 3);
        x.face(1, 1, 1);
        x.face(4, 1, 1);
        x.pass(1);
        Checks.due("face 0", x.ofFace(0, 0), 0);
        Checks.due("face 1", x.ofFace(1, 0), 0);
        Checks.due("crushed", x.count(5), 5);
        Checks.due("three were sent", x.count(10), 6);
    }

    private static void errorsChangeNothing() {
        QuarryBlends x = new QuarryBlends();
        x.face(500, 3, 4);
        x.contract(400, 0, 50, 0, 50, 9);
        x.pass(2);
        String before = Checks.stateOf(x);
        x.set(TRUCKS, 0);
        x.set(7, 7);
        x.face(1, 1, 99);
        x.contract(1, 2, 1, 0, 0, 0);
        x.drop(1);
        x.pass(31);
        x.restore(0);
        x.restore(9);
        x.save(9);
        x.put(7);
        x.carryOut();
        Checks.due("errors change nothing: the state", Checks.stateOf(x), before);
        Checks.due("errors change nothing: changes", x.count(18), 3);
        Checks.due("errors change nothing: the pad", x.count(17), 0);
        Checks.due("errors change nothing: slot 0", x.restore(0), NOT_POSSIBLE);
    }
}
