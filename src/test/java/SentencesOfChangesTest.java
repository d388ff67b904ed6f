import java.util.function.ToIntFunction;

/** The promises 1 to 7, sentence by sentence: a new object, set, face, contract, drop, mend, pass. */
public final class SentencesOfChangesTest {
    private static final int NO_SUCH = Checks.NO_SUCH, BAD_VALUE = Checks.BAD_VALUE, TOO_MANY = Checks.TOO_MANY;
    private static final int NOT_POSSIBLE = Checks.NOT_POSSIBLE, NONE = Checks.NONE, BAD_TEXT = Checks.BAD_TEXT;
    private static final int TRUCKS = Checks.TRUCKS, LOAD = Checks.LOAD, HOURS = Checks.HOURS;
    private static final int GAP = Checks.GAP, CRUSH = Checks.CRUSH, COST = Checks.COST;
    private static final int[] LEAST = {0, 1, 1, 1, 1, 0}, MOST = {20, 40, 24, 9, 200, 99};

    public static void main(String[] args) {
        newObject();
        set();
        setBeyondItsRanges();
        setWithTrucksAway();
        face();
        contract();
        drop();
        mend();
        pass();
        passUpToTheLastHour();
        Sentences.end();
    }

    private static void due(String call, long got, long want) {
        Checks.due(call, got, want);
    }

    /** A call that returns no error is recorded, and undone as a whole. */
    private static void isAChange(QuarryBlends x, ToIntFunction<QuarryBlends> call) {
        int changes = Math.min(6, x.count(18) + 1);
        String before = Checks.stateOf(x);
        due("it is no error", call.applyAsInt(x) >= 0 ? 1 : 0, 1);
        due("changes", x.count(18), changes);
        due("undo()", x.undo(), changes - 1);
        Checks.due("the state behind undo()", Checks.stateOf(x), before);
    }

    private static void isNoChange(QuarryBlends x, ToIntFunction<QuarryBlends> call, int error) {
        int changes = x.count(18);
        String before = Checks.stateOf(x);
        due("it is refused", call.applyAsInt(x), error);
        due("changes", x.count(18), changes);
        Checks.due("the state behind it", Checks.stateOf(x), before);
    }

    private static void newObject() {
        Sentences.under("Promise 1: A new object");
        Sentences.says("`QuarryBlends()`: Creates a quarry without faces and contracts.");
        QuarryBlends x = new QuarryBlends();
        int[] counts = {0, 0, 0, 0, 0, 0, 0, 50, 0, 0, 0, 3, 20, 8, 5, 50, 2, 0, 0};
        for (int what = 0; what < counts.length; what++) {
            due("count(" + what + ")", x.count(what), counts[what]);
        }
        due("ofFace(0, 0)", x.ofFace(0, 0), NO_SUCH);
        due("ofContract(0, 0)", x.ofContract(0, 0), NO_SUCH);
        for (int truck = 0; truck < 3; truck++) {
            due("truck(" + truck + ", 2)", x.truck(truck, 2), NONE);
            due("truck(" + truck + ", 3)", x.truck(truck, 3), 0);
        }
        for (int bin = 0; bin < 3; bin++) {
            due("bin(" + bin + ")", x.bin(bin), 0);
        }
        for (int hardness = 1; hardness <= 9; hardness++) {
            due("waiting(" + hardness + ")", x.waiting(hardness), 0);
        }
        due("fault()", x.fault(), 0);
        due("carryOut()", x.carryOut(), BAD_TEXT);
        due("undo()", x.undo(), NOT_POSSIBLE);
        due("restore(0)", x.restore(0), NOT_POSSIBLE);
        due("restore(1)", x.restore(1), NOT_POSSIBLE);
        due("pass(30)", x.pass(30), 0);
        Checks.putText(x, "m");
        x.save(0);
        QuarryBlends y = new QuarryBlends();
        due("another one's hours", y.count(0), 0);
        due("another one's changes", y.count(18), 0);
        due("another one's pad", y.count(17), 0);
        due("another one's slot", y.restore(0), NOT_POSSIBLE);
        Sentences.whole();
    }

    private static void set() {
        Sentences.under("Promise 2: set");
        Sentences.says("`int set(int setting, int value)`: Changes a setting");
        for (int setting = 0; setting < 6; setting++) {
            for (int value : new int[] {LEAST[setting], LEAST[setting] + 1, MOST[setting] - 1, MOST[setting]}) {
                QuarryBlends x = new QuarryBlends();
                x.set(setting, value);
                int[] all = {3, 20, 8, 5, 50, 2};
                all[setting] = value;
                for (int other = 0; other < 6; other++) {
                    due("behind set(" + setting + ", " + value + "): setting " + other, x.count(11 + other), all[other]);
                }
            }
        }

        Sentences.says("(trucks that come again later were sent as often as before).");
        QuarryBlends x = new QuarryBlends();
        x.set(TRUCKS, 20);
        x.set(HOURS, 2);
        x.face(400, 5, 1);
        x.pass(1);
        due("truck 19", x.truck(19, 3), 1);
        x.set(TRUCKS, 0);
        due("truck 0 of none", x.truck(0, 3), NO_SUCH);
        x.pass(1);
        x.set(TRUCKS, 1);
        due("truck 0 of one", x.truck(0, 3), 1);
        due("truck 1 of one", x.truck(1, 3), NO_SUCH);
        x.face(1, 1, 1);
        x.pass(1);
        x.set(TRUCKS, 20);
        due("truck 0 of twenty", x.truck(0, 3), 2);
        due("truck 1 of twenty", x.truck(1, 3), 1);
        due("truck 19 of twenty", x.truck(19, 3), 1);
        due("it waits", x.truck(19, 0), NONE);

        Sentences.says("This is a change.");
        for (int setting = 0; setting < 6; setting++) {
            int same = setting;
            isAChange(new QuarryBlends(), y -> y.set(same, LEAST[same]));
            isAChange(new QuarryBlends(), y -> y.set(same, y.count(11 + same)));
        }
        Sentences.says("Returns the previous value;");
        int[] first = {3, 20, 8, 5, 50, 2};
        for (int setting = 0; setting < 6; setting++) {
            x = new QuarryBlends();
            due("the first one", x.set(setting, LEAST[setting]), first[setting]);
            due("the least one", x.set(setting, MOST[setting]), LEAST[setting]);
            due("the most one", x.set(setting, MOST[setting]), MOST[setting]);
            due("the same one", x.set(setting, first[setting]), MOST[setting]);
        }
    }

    private static void setBeyondItsRanges() {
        Sentences.says("BAD_VALUE if there is no such setting, or the value is out of its range;");
        for (int setting : Checks.outside(0, 5)) {
            isNoChange(new QuarryBlends(), x -> x.set(setting, 1), BAD_VALUE);
        }
        for (int setting = 0; setting < 6; setting++) {
            int same = setting;
            for (int value : Checks.outside(LEAST[setting], MOST[setting])) {
                isNoChange(new QuarryBlends(), x -> x.set(same, value), BAD_VALUE);
            }
        }
    }

    /** Of so many trucks the last one alone is away, for a way of 12 hours; the hour is 2. */
    private static QuarryBlends withLastTruckAway(int trucks) {
        QuarryBlends x = new QuarryBlends();
        x.set(HOURS, 2);
        x.set(TRUCKS, trucks);
        x.set(LOAD, 10);
        if (trucks > 1) {
            x.face(10 * (trucks - 1), 5, 1);
        }
        x.face(1, 5, 12);
        x.pass(1);
        due("away of " + trucks, x.count(3), 1);
        due("truck " + (trucks - 1) + " is it", x.truck(trucks - 1, 2), 12);
        return x;
    }

    private static void setWithTrucksAway() {
        Sentences.says("NOT_POSSIBLE if it is TRUCKS, and a truck that there would not be is on its way.");
        for (int trucks : new int[] {1, 3, 20}) {
            isNoChange(withLastTruckAway(trucks), x -> x.set(TRUCKS, trucks - 1), NOT_POSSIBLE);
            isNoChange(withLastTruckAway(trucks), x -> x.set(TRUCKS, 0), NOT_POSSIBLE);
            isNoChange(withLastTruckAway(trucks), x -> x.set(TRUCKS, -1), BAD_VALUE);
            QuarryBlends x = withLastTruckAway(trucks);
            due("as many as there are", x.set(TRUCKS, trucks), trucks);
            due("another setting", x.set(GAP, 1), 5);
            due("the most", x.set(TRUCKS, 20), trucks);
            due("back to them", x.set(TRUCKS, trucks), 20);
            x.pass(5);
            due("hours", x.count(0), 12);
            due("ahead of hour 12", x.set(TRUCKS, 0), NOT_POSSIBLE);
            x.pass(1);
            due("behind it", x.set(TRUCKS, 0), trucks);
        }
        QuarryBlends x = new QuarryBlends();
        x.set(HOURS, 1);
        x.face(20, 5, 12);
        x.pass(1);
        due("truck 0 alone is away: two wait", x.set(TRUCKS, 1), 3);
        due("it would not be", x.set(TRUCKS, 0), NOT_POSSIBLE);
        Sentences.whole();
    }

    private static void face() {
        Sentences.under("Promise 3: face");
        Sentences.says("`int face(int tonnes, int hardness, int way)`: A face comes.");
        QuarryBlends x = new QuarryBlends();
        x.face(70, 3, 4);
        due("faces", x.count(1), 1);
        int[] face = {70, 3, 4, 0, 0};
        for (int what = 0; what < face.length; what++) {
            due("ofFace(0, " + what + ")", x.ofFace(0, what), face[what]);
        }
        Sentences.says("This is a change.");
        isAChange(new QuarryBlends(), y -> y.face(1, 1, 1));
        isAChange(x, y -> y.face(9999, 9, 12));

        Sentences.says("- `tonnes`: 1 to 9999");
        due("1", new QuarryBlends().face(1, 5, 5), 0);
        due("9999", new QuarryBlends().face(9999, 5, 5), 0);
        for (int tonnes : Checks.outside(1, 9999)) {
            due("face(" + tonnes + ", 5, 5)", new QuarryBlends().face(tonnes, 5, 5), BAD_VALUE);
        }
        Sentences.says("- `hardness`: 1 to 9");
        due("1", new QuarryBlends().face(5, 1, 5), 0);
        due("9", new QuarryBlends().face(5, 9, 5), 0);
        for (int hardness : Checks.outside(1, 9)) {
            due("face(5, " + hardness + ", 5)", new QuarryBlends().face(5, hardness, 5), BAD_VALUE);
        }
        Sentences.says("- `way`: 1 to 12");
        due("1", new QuarryBlends().face(5, 5, 1), 0);
        due("12", new QuarryBlends().face(5, 5, 12), 0);
        for (int way : Checks.outside(1, 12)) {
            due("face(5, 5, " + way + ")", new QuarryBlends().face(5, 5, way), BAD_VALUE);
        }

        Sentences.says("Returns its number;");
        x = new QuarryBlends();
        for (int number = 0; number < 8; number++) {
            due("face number " + number, x.face(1 + number, 1, 1), number);
        }
        Sentences.says("BAD_VALUE if an argument is out of range;");
        isNoChange(new QuarryBlends(), y -> y.face(0, 5, 5), BAD_VALUE);
        isNoChange(new QuarryBlends(), y -> y.face(5, 10, 5), BAD_VALUE);
        isNoChange(new QuarryBlends(), y -> y.face(5, 5, 13), BAD_VALUE);
        isNoChange(x, y -> y.face(10000, 5, 5), BAD_VALUE);
        Sentences.says("TOO_MANY if there are 8 faces.");
        isNoChange(x, y -> y.face(1, 1, 1), TOO_MANY);
        due("seven behind undo()", x.undo() + x.count(1), 5 + 7);
        due("the eighth one again", x.face(1, 1, 1), 7);
        Sentences.whole();
    }

    /** Looks at the range of one argument of contract(), the others as given. */
    private static void rangeOfContract(int argument, int least, int most, int... others) {
        for (int value : new int[] {least, most}) {
            int[] a = others.clone();
            a[argument] = value;
            QuarryBlends x = new QuarryBlends();
            due("argument " + argument + " is " + value, x.contract(a[0], a[1], a[2], a[3], a[4], a[5]), 0);
            due("and kept", x.ofContract(0, argument), value);
        }
        for (int value : Checks.outside(least, most)) {
            int[] a = others.clone();
            a[argument] = value;
            isNoChange(new QuarryBlends(), x -> x.contract(a[0], a[1], a[2], a[3], a[4], a[5]), BAD_VALUE);
        }
    }

    private static void contract() {
        Sentences.under("Promise 4: contract");
        Sentences.says("`int contract(int tonnes, int leastFine, int mostFine, int leastCoarse, int mostCoarse, int price)`: A contract comes.");
        QuarryBlends x = new QuarryBlends();
        x.contract(70, 1, 22, 3, 44, 5);
        due("contracts", x.count(2), 1);
        int[] contract = {70, 1, 22, 3, 44, 5, 1, NONE, NONE};
        for (int what = 0; what < contract.length; what++) {
            due("ofContract(0, " + what + ")", x.ofContract(0, what), contract[what]);
        }
        Sentences.says("This is a change.");
        isAChange(x, y -> y.contract(1, 0, 0, 0, 0, 0));
        Sentences.says("- `tonnes`: 1 to 500");
        rangeOfContract(0, 1, 500, 0, 0, 0, 0, 0, 0);
        Sentences.says("- `leastFine`: 0 to 100");
        rangeOfContract(1, 0, 100, 1, 0, 100, 0, 0, 0);
        Sentences.says("- `mostFine`: leastFine to 100");
        rangeOfContract(2, 0, 100, 1, 0, 0, 0, 0, 0);
        rangeOfContract(2, 50, 100, 1, 50, 0, 0, 0, 0);
        rangeOfContract(2, 100, 100, 1, 100, 0, 0, 0, 0);
        Sentences.says("- `leastCoarse`: 0 to 100");
        rangeOfContract(3, 0, 100, 1, 0, 0, 0, 100, 0);
        Sentences.says("- `mostCoarse`: leastCoarse to 100");
        rangeOfContract(4, 0, 100, 1, 0, 0, 0, 0, 0);
        rangeOfContract(4, 50, 100, 1, 0, 0, 50, 0, 0);
        rangeOfContract(4, 100, 100, 1, 0, 0, 100, 0, 0);
        Sentences.says("- `price`: 0 to 99");
        rangeOfContract(5, 0, 99, 1, 0, 0, 0, 0, 0);

        Sentences.says("Returns its number;");
        x = new QuarryBlends();
        for (int number = 0; number < 12; number++) {
            due("contract number " + number, x.contract(1, 0, 0, 0, 0, number), number);
        }
        Sentences.says("BAD_VALUE if an argument is out of range;");
        isNoChange(withContracts(12), y -> y.contract(1, 0, 0, 0, 0, 100), BAD_VALUE);
        isNoChange(withContracts(11), y -> y.contract(1, 0, 101, 0, 0, 0), BAD_VALUE);
        Sentences.says("TOO_MANY if there are 12 contracts.");
        isNoChange(withContracts(12), y -> y.contract(1, 0, 0, 0, 0, 0), TOO_MANY);
        due("drop(3)", x.drop(3), 11);
        due("a twelfth one again", x.contract(1, 0, 0, 0, 0, 0), 11);
        Sentences.whole();
    }

    private static QuarryBlends withContracts(int amount) {
        QuarryBlends x = new QuarryBlends();
        for (int contract = 0; contract < amount; contract++) {
            x.contract(1 + contract, contract, 40 + contract, 20 + contract, 60 + contract, 80 + contract);
        }
        return x;
    }

    private static void drop() {
        Sentences.under("Promise 5: drop");
        Sentences.says("`int drop(int contract)`: Drops a contract.");
        for (int amount : new int[] {1, 5, 12}) {
            for (int dropped = 0; dropped < amount; dropped++) {
                QuarryBlends x = withContracts(amount);
                x.drop(dropped);
                for (int contract = 0; contract < amount - 1; contract++) {
                    int was = contract < dropped ? contract : contract + 1;
                    int[] terms = {1 + was, was, 40 + was, 20 + was, 60 + was, 80 + was};
                    for (int what = 0; what < terms.length; what++) {
                        due(amount + " less " + dropped + ": ofContract(" + contract + ", " + what + ")", x.ofContract(contract, what), terms[what]);
                    }
                }
                due("there is no other", x.ofContract(amount - 1, 0), NO_SUCH);
            }
        }
        Sentences.says("This is a change.");
        isAChange(withContracts(3), x -> x.drop(0));
        isAChange(withContracts(3), x -> x.drop(2));
        Sentences.says("Returns how many contracts there are then;");
        QuarryBlends all = withContracts(12);
        for (int left = 11; left >= 0; left--) {
            due("drop(0)", all.drop(0), left);
            due("contracts", all.count(2), left);
        }
        Sentences.says("NO_SUCH if there is no such contract.");
        isNoChange(all, x -> x.drop(0), NO_SUCH);
        for (int amount : new int[] {1, 12}) {
            for (int contract : Checks.outside(0, amount - 1)) {
                isNoChange(withContracts(amount), x -> x.drop(contract), NO_SUCH);
            }
        }
        Sentences.whole();
    }

    private static QuarryBlends withWear() {
        QuarryBlends x = new QuarryBlends();
        Checks.crushAtOnce(x, 100, 9, 5);
        Checks.crushAtOnce(x, 100, 2, 5);
        return x;
    }

    private static void mend() {
        Sentences.under("Promise 6: mend");
        Sentences.says("`int mend()`: Mends the crusher: its wear is 0 then.");
        QuarryBlends x = withWear();
        due("tonnes in an hour ahead", x.count(7), 199);
        x.mend();
        due("the wear", x.count(6), 0);
        due("tonnes in an hour behind", x.count(7), 200);
        due("what was crushed stays", x.count(5), 200);
        Checks.crushAtOnce(x, 100, 4, 5);
        due("the wear begins anew", x.count(6), 400);
        Sentences.says("This is a change.");
        isAChange(withWear(), y -> y.mend());
        isAChange(new QuarryBlends(), y -> y.mend());
        Sentences.says("Returns the wear that it had.");
        due("of a new one", new QuarryBlends().mend(), 0);
        due("of a used one", withWear().mend(), 1100);
        due("then", x.mend(), 400);
        due("once more", x.mend(), 0);
        Sentences.whole();
    }

    private static void pass() {
        Sentences.under("Promise 7: pass");
        Sentences.says("`int pass(int days)`: Lets days pass.");
        QuarryBlends x = new QuarryBlends();
        x.pass(1);
        due("a day of 8 hours", x.count(0), 8);
        x.pass(30);
        due("and thirty", x.count(0), 248);
        QuarryBlends y = new QuarryBlends();
        for (QuarryBlends each : new QuarryBlends[] {x = new QuarryBlends(), y}) {
            each.face(900, 4, 3);
            each.contract(90, 10, 90, 10, 90, 2);
            each.contract(300, 10, 90, 10, 90, 2);
        }
        x.pass(5);
        for (int day = 0; day < 5; day++) {
            y.pass(1);
        }
        Checks.due("five days are a day five times", Checks.stateOf(x), Checks.stateOf(y));
        Sentences.says("This is a change.");
        isAChange(x, z -> z.pass(1));
        isAChange(new QuarryBlends(), z -> z.pass(30));

        Sentences.says("- `days`: 1 to 30");
        for (int days : new int[] {1, 2, 29, 30}) {
            x = new QuarryBlends();
            due("pass(" + days + ")", x.pass(days), 0);
            due("hours", x.count(0), 8 * days);
        }
        // the last one times 24 hours is 8 when it wraps around
        for (int days : new int[] {0, 31, -1, -30, Integer.MIN_VALUE, Integer.MAX_VALUE, 257, 65537, 178956971}) {
            x = new QuarryBlends();
            x.set(HOURS, 24);
            due("pass(" + days + ")", x.pass(days), BAD_VALUE);
            due("hours", x.count(0), 0);
        }

        Sentences.says("Returns how many contracts are delivered in them;");
        x = new QuarryBlends();
        due("without contracts", x.pass(1), 0);
        x = Checks.withBins(60, 60, 60);
        for (int contract = 0; contract < 12; contract++) {
            x.contract(1 + contract, 0, 100, 0, 100, 1);
        }
        due("all twelve in a day", x.pass(1), 12);
        x = Checks.withBins(60, 60, 60);
        x.contract(100, 0, 100, 0, 100, 1);
        x.contract(100, 0, 100, 0, 100, 1);
        due("one of two", x.pass(30), 1);
        due("none of one", x.pass(30), 0);
        x = new QuarryBlends();
        x.set(HOURS, 1);
        x.set(TRUCKS, 1);
        x.face(60, 5, 1);
        for (int contract = 0; contract < 3; contract++) {
            x.contract(20, 0, 100, 0, 100, 1);
        }
        due("one on each day behind the first one", x.pass(3), 2);
        due("the last one", x.pass(3), 1);
        due("in all", x.count(8), 3);

        Sentences.says("BAD_VALUE if days is out of range;");
        isNoChange(x, z -> z.pass(0), BAD_VALUE);
        isNoChange(x, z -> z.pass(31), BAD_VALUE);
    }

    /** The hour is 9984. */
    private static QuarryBlends nearTheEnd() {
        QuarryBlends x = new QuarryBlends();
        x.set(HOURS, 24);
        for (int month = 0; month < 13; month++) {
            x.pass(30);
        }
        x.pass(26);
        due("hours", x.count(0), 9984);
        return x;
    }

    private static void passUpToTheLastHour() {
        Sentences.says("NOT_POSSIBLE if there would be more than 9999 hours.");
        isNoChange(nearTheEnd(), x -> x.pass(1), NOT_POSSIBLE);
        isNoChange(nearTheEnd(), x -> x.pass(30), NOT_POSSIBLE);
        isNoChange(nearTheEnd(), x -> x.pass(31), BAD_VALUE);
        QuarryBlends x = nearTheEnd();
        x.set(HOURS, 16);
        due("a day to 10000", x.pass(1), NOT_POSSIBLE);
        x.set(HOURS, 5);
        due("four days to 10004", x.pass(4), NOT_POSSIBLE);
        due("three days to 9999", x.pass(3), 0);
        due("hours", x.count(0), 9999);
        x.set(HOURS, 1);
        due("a day of an hour behind it", x.pass(1), NOT_POSSIBLE);
        due("hours", x.count(0), 9999);
        x.set(CRUSH, 1);
        x.set(COST, 0);
        due("settings can change yet", x.count(15) + x.count(16), 1);
        x = nearTheEnd();
        x.set(HOURS, 15);
        due("a day to 9999", x.pass(1), 0);
        due("a day behind it", x.pass(1), NOT_POSSIBLE);
        Sentences.whole();
    }
}
