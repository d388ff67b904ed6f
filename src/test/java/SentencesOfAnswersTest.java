/** The promises 8 to 16, sentence by sentence: ofFace, truck, ofContract, bin, waiting, count, then, bestGap, leastTrucks. */
public final class SentencesOfAnswersTest {
    private static final int NO_SUCH = Checks.NO_SUCH, BAD_VALUE = Checks.BAD_VALUE, NONE = Checks.NONE;
    private static final int TRUCKS = Checks.TRUCKS, LOAD = Checks.LOAD, HOURS = Checks.HOURS;
    private static final int GAP = Checks.GAP, CRUSH = Checks.CRUSH, COST = Checks.COST;

    public static void main(String[] args) {
        ofFace();
        truck();
        ofContract();
        bin();
        waiting();
        countOfStone();
        countOfTheRest();
        then();
        bestGap();
        leastTrucks();
        Sentences.end();
    }

    private static void due(String call, long got, long want) {
        Checks.due(call, got, want);
    }

    /** A quarry of days of one hour. */
    private static QuarryBlends hourly(int trucks, int load, int crush) {
        QuarryBlends x = new QuarryBlends();
        x.set(HOURS, 1);
        x.set(TRUCKS, trucks);
        x.set(LOAD, load);
        x.set(CRUSH, crush);
        return x;
    }

    private static void ofFace() {
        Sentences.under("Promise 8: ofFace");
        QuarryBlends x = hourly(4, 30, 50);
        x.face(70, 4, 3);
        x.face(65, 6, 5);
        x.face(9, 2, 1);
        x.pass(1);
        Sentences.says("`int ofFace(int face, int what)`: Returns something about a face. - `what`: 0 the tonnes left,");
        due("of 70 less 30 and 30", x.ofFace(0, 0), 10);
        due("of 65 less 30 and 30", x.ofFace(1, 0), 5);
        due("of 9", x.ofFace(2, 0), 9);
        Sentences.says("1 its hardness,");
        due("of face 0", x.ofFace(0, 1), 4);
        due("of face 2", x.ofFace(2, 1), 2);
        Sentences.says("2 its way,");
        due("of face 0", x.ofFace(0, 2), 3);
        due("of face 1", x.ofFace(1, 2), 5);
        Sentences.says("3 trucks that are on their way from it,");
        due("from face 0", x.ofFace(0, 3), 2);
        due("from face 1", x.ofFace(1, 3), 2);
        due("from face 2", x.ofFace(2, 3), 0);
        Sentences.says("4 the tonnes that were taken away so far");
        due("from face 0", x.ofFace(0, 4), 60);
        due("from face 2", x.ofFace(2, 4), 0);
        x.pass(30);
        due("at last none is left", x.ofFace(0, 0) + x.ofFace(1, 0) + x.ofFace(2, 0), 0);
        due("all is taken from face 0", x.ofFace(0, 4), 70);
        due("all is taken from face 1", x.ofFace(1, 4), 65);
        due("all is taken from face 2", x.ofFace(2, 4), 9);
        due("no truck comes from face 0", x.ofFace(0, 3), 0);
        Sentences.says("Returns the number;");
        x.face(9999, 9, 12);
        due("the highest one", x.ofFace(3, 0), 9999);
        Sentences.says("NO_SUCH if there is no such face;");
        due("of none", new QuarryBlends().ofFace(0, 0), NO_SUCH);
        for (int face : Checks.outside(0, 3)) {
            due("ofFace(" + face + ", 0)", x.ofFace(face, 0), NO_SUCH);
            due("ofFace(" + face + ", 5)", x.ofFace(face, 5), NO_SUCH);
        }
        for (int more = 0; more < 4; more++) {
            x.face(1, 1, 1);
        }
        due("of the eighth", x.ofFace(7, 0), 1);
        due("of a ninth", x.ofFace(8, 0), NO_SUCH);
        Sentences.says("BAD_VALUE if what is out of range.");
        for (int what : Checks.outside(0, 4)) {
            due("ofFace(0, " + what + ")", x.ofFace(0, what), BAD_VALUE);
        }
        Sentences.whole();
    }

    private static void truck() {
        Sentences.under("Promise 9: truck");
        QuarryBlends x = hourly(4, 30, 50);
        x.face(20, 4, 12);
        x.face(70, 6, 5);
        x.pass(1);
        Sentences.says("`int truck(int truck, int what)`: Returns something about a truck. - `what`: 0 the face from which it comes,");
        int[][] trucks = {{1, 30, 5, 1}, {1, 30, 5, 1}, {0, 20, 12, 1}, {1, 10, 5, 1}};
        for (int truck = 0; truck < 4; truck++) {
            due("truck(" + truck + ", 0)", x.truck(truck, 0), trucks[truck][0]);
        }
        Sentences.says("1 its load,");
        for (int truck = 0; truck < 4; truck++) {
            due("truck(" + truck + ", 1)", x.truck(truck, 1), trucks[truck][1]);
        }
        Sentences.says("2 the hour in which it comes back");
        for (int truck = 0; truck < 4; truck++) {
            due("truck(" + truck + ", 2)", x.truck(truck, 2), trucks[truck][2]);
        }
        Sentences.says("(0 to 2: NONE if it waits),");
        x.pass(4);
        due("behind hour 4, truck 0", x.truck(0, 2), 5);
        x.pass(1);
        for (int what = 0; what < 3; what++) {
            due("behind hour 5, truck(0, " + what + ")", x.truck(0, what), NONE);
            due("behind hour 5, truck(2, " + what + ")", x.truck(2, what), trucks[2][what]);
            due("of a new quarry, truck(0, " + what + ")", new QuarryBlends().truck(0, what), NONE);
        }
        Sentences.says("3 how often it was sent so far");
        for (int truck = 0; truck < 4; truck++) {
            due("truck(" + truck + ", 3)", x.truck(truck, 3), 1);
        }
        due("of a new quarry", new QuarryBlends().truck(2, 3), 0);
        x.face(9999, 1, 1);
        x.pass(10);
        due("ten times more", x.truck(0, 3), 11);
        due("truck 2 was away up to hour 12", x.truck(2, 3), 5);
        Sentences.says("Returns the number;");
        due("truck 0 is away", x.truck(0, 2), 16);
        Sentences.says("NO_SUCH if there is no such truck;");
        for (int truck : Checks.outside(0, 3)) {
            due("truck(" + truck + ", 3)", x.truck(truck, 3), NO_SUCH);
            due("truck(" + truck + ", 4)", x.truck(truck, 4), NO_SUCH);
        }
        x = new QuarryBlends();
        x.set(TRUCKS, 0);
        due("of no trucks", x.truck(0, 3), NO_SUCH);
        x.set(TRUCKS, 20);
        due("the twentieth", x.truck(19, 3), 0);
        due("behind the twentieth", x.truck(20, 3), NO_SUCH);
        Sentences.says("BAD_VALUE if what is out of range.");
        for (int what : Checks.outside(0, 3)) {
            due("truck(19, " + what + "), waiting", x.truck(19, what), BAD_VALUE);
        }
        x.face(9999, 1, 12);
        x.set(HOURS, 1);
        x.pass(1);
        for (int what : Checks.outside(0, 3)) {
            due("truck(19, " + what + "), away", x.truck(19, what), BAD_VALUE);
        }
        Sentences.whole();
    }

    private static void ofContract() {
        Sentences.under("Promise 10: ofContract");
        QuarryBlends x = Checks.withBins(10, 20, 30);
        x.contract(40, 10, 90, 20, 80, 7);
        x.contract(500, 1, 2, 3, 4, 99);
        x.contract(30, 50, 60, 0, 0, 0);
        Sentences.says("`int ofContract(int contract, int what)`: Returns something about a contract. - `what`: 0 its tonnes,");
        due("of contract 0", x.ofContract(0, 0), 40);
        due("of contract 1", x.ofContract(1, 0), 500);
        Sentences.says("1, 2 the least and the most fine hundredths,");
        due("the least", x.ofContract(0, 1), 10);
        due("the most", x.ofContract(0, 2), 90);
        Sentences.says("3, 4 the coarse ones,");
        due("the least", x.ofContract(0, 3), 20);
        due("the most", x.ofContract(0, 4), 80);
        Sentences.says("5 its price,");
        due("of contract 0", x.ofContract(0, 5), 7);
        due("of contract 1", x.ofContract(1, 5), 99);
        due("of contract 2", x.ofContract(2, 5), 0);
        Sentences.says("6 the reason against it now,");
        due("of contract 0", x.ofContract(0, 6), 0);
        due("of contract 1", x.ofContract(1, 6), 1);
        due("of contract 2", x.ofContract(2, 6), 3);
        Sentences.says("7, 8 the fine and the coarse tonnes of its blend by rule now");
        due("fine", x.ofContract(0, 7), 4);
        due("coarse", x.ofContract(0, 8), 30);
        Sentences.says("(NONE if there is a reason against it)");
        for (int contract = 1; contract < 3; contract++) {
            due("fine of " + contract, x.ofContract(contract, 7), NONE);
            due("coarse of " + contract, x.ofContract(contract, 8), NONE);
        }
        x.pass(1);
        due("now, with 6, 14 and 0 tonnes: the second", x.ofContract(0, 6), 1);
        due("now, with 6, 14 and 0 tonnes: the third", x.ofContract(1, 6), 1);
        x.contract(10, 0, 100, 0, 100, 1);
        due("now: fine", x.ofContract(2, 7), 0);
        due("now: coarse", x.ofContract(2, 8), 0);
        Sentences.says("Returns the number;");
        due("of what is taken", x.bin(0) + x.bin(1) + x.bin(2), 20);
        Sentences.says("NO_SUCH if there is no such contract;");
        due("of none", new QuarryBlends().ofContract(0, 0), NO_SUCH);
        for (int contract : Checks.outside(0, 2)) {
            due("ofContract(" + contract + ", 0)", x.ofContract(contract, 0), NO_SUCH);
            due("ofContract(" + contract + ", 7)", x.ofContract(contract, 7), NO_SUCH);
            due("ofContract(" + contract + ", 9)", x.ofContract(contract, 9), NO_SUCH);
        }
        for (int more = 0; more < 9; more++) {
            x.contract(9, 0, 0, 0, 0, 0);
        }
        due("of the twelfth", x.ofContract(11, 0), 9);
        due("of a thirteenth", x.ofContract(12, 0), NO_SUCH);
        x.drop(4);
        due("of a dropped one", x.ofContract(11, 0), NO_SUCH);
        Sentences.says("BAD_VALUE if what is out of range.");
        for (int what : Checks.outside(0, 8)) {
            due("ofContract(0, " + what + ")", x.ofContract(0, what), BAD_VALUE);
            due("ofContract(2, " + what + ")", x.ofContract(2, what), BAD_VALUE);
        }
        Sentences.whole();
    }

    private static void bin() {
        Sentences.under("Promise 11: bin");
        Sentences.says("`int bin(int bin)`: Returns the tonnes in a bin.");
        QuarryBlends x = Checks.withBins(12, 0, 34);
        due("fine", x.bin(0), 12);
        due("middle", x.bin(1), 0);
        due("coarse", x.bin(2), 34);
        Sentences.says("Returns the tonnes;");
        due("of an empty one", new QuarryBlends().bin(2), 0);
        Sentences.says("NO_SUCH if there is no such bin.");
        for (int bin : Checks.outside(0, 2)) {
            due("bin(" + bin + ")", x.bin(bin), NO_SUCH);
        }
        Sentences.whole();
    }

    private static void waiting() {
        Sentences.under("Promise 12: waiting");
        Sentences.says("`int waiting(int hardness)`: Returns the tonnes of a hardness in front of the crusher.");
        for (int hardness = 1; hardness <= 9; hardness++) {
            QuarryBlends x = hourly(20, 40, 1);
            x.face(700, hardness, 1);
            x.pass(2);
            for (int other = 1; other <= 9; other++) {
                due("of " + hardness + ": waiting(" + other + ")", x.waiting(other), other == hardness ? 699 : 0);
            }
        }
        Sentences.says("Returns the tonnes;");
        QuarryBlends x = hourly(1, 20, 20);
        x.face(20, 9, 1);
        x.pass(1);
        due("on its way", x.waiting(9), 0);
        x.pass(1);
        due("all crushed", x.waiting(9), 0);
        Sentences.says("NO_SUCH if hardness is not 1 to 9.");
        for (int hardness : Checks.outside(1, 9)) {
            due("waiting(" + hardness + ")", x.waiting(hardness), NO_SUCH);
        }
        Sentences.whole();
    }

    private static void countOfStone() {
        Sentences.under("Promise 13: count");
        Sentences.says("`int count(int what)`: Returns a number. - `what`: 0 hours so far,");
        QuarryBlends x = hourly(4, 20, 30);
        due("at first", x.count(0), 0);
        x.face(70, 9, 1);
        x.face(20, 2, 12);
        x.pass(1);
        due("an hour", x.count(0), 1);
        Sentences.says("1 faces,");
        due("none", new QuarryBlends().count(1), 0);
        due("two", x.count(1), 2);
        Sentences.says("2 contracts,");
        due("none", x.count(2), 0);
        x.contract(500, 0, 0, 0, 0, 0);
        due("one", x.count(2), 1);
        Sentences.says("3 trucks on their way,");
        due("none", new QuarryBlends().count(3), 0);
        due("three to face 0, one to face 1", x.count(3), 4);
        x.set(TRUCKS, 20);
        due("the others wait", x.count(3), 4);
        x.pass(1);
        due("face 0 had ten tonnes more, truck 3 goes on", x.count(3), 2);
        Sentences.says("4 the tonnes in front of the crusher,");
        due("60 less 30", x.count(4), 30);
        Sentences.says("5 the tonnes that were crushed so far,");
        due("30", x.count(5), 30);
        Sentences.says("6 the wear,");
        due("30 * 9", x.count(6), 270);
        x.set(CRUSH, 200);
        x.pass(12);
        due("70 * 9 + 20 * 2", x.count(6), 670);
        due("all are crushed", x.count(5), 90);
        due("and none is there", x.count(4), 0);
        Sentences.says("7 the tonnes that can be crushed in an hour now,");
        due("by a wear of 670", x.count(7), 200);
        x.set(CRUSH, 1);
        due("by CRUSH of 1", x.count(7), 1);
        x.set(CRUSH, 200);
        x.face(40, 9, 1);
        x.pass(2);
        due("by a wear of 1030", x.count(7), 199);
        x.mend();
        due("mended", x.count(7), 200);
    }

    private static void countOfTheRest() {
        QuarryBlends x = Checks.withBins(50, 50, 50);
        int delivered = x.count(8);
        Sentences.says("8 contracts that were delivered so far,");
        due("none", new QuarryBlends().count(8), 0);
        x.contract(20, 0, 100, 0, 100, 3);
        x.contract(30, 0, 100, 0, 100, 4);
        x.contract(200, 0, 100, 0, 100, 5);
        x.pass(3);
        due("two", x.count(8), delivered + 2);
        x.drop(0);
        due("a dropped one is none", x.count(8), delivered + 2);
        Sentences.says("9 what they paid so far,");
        due("nothing", new QuarryBlends().count(9), 0);
        due("20 * 3 and 30 * 4", x.count(9), 180);
        Sentences.says("10 the costs so far,");
        due("nothing", new QuarryBlends().count(10), 0);
        int costs = x.count(10);
        x.set(COST, 99);
        x.face(60, 5, 12);
        x.pass(1);
        due("three times twelve hours for 99", x.count(10), costs + 3 * 12 * 99);

        Sentences.says("11 to 16 the settings,");
        int[] values = {7, 8, 9, 6, 11, 12};
        for (int setting = 0; setting < 6; setting++) {
            x = new QuarryBlends();
            x.set(setting, values[setting]);
            due("setting " + setting, x.count(11 + setting), values[setting]);
            due("another one", x.count(11 + (setting + 1) % 6), new QuarryBlends().count(11 + (setting + 1) % 6));
        }
        Sentences.says("17 the length of the pad,");
        due("empty", x.count(17), 0);
        Checks.putText(x, "m;".repeat(40));
        due("full", x.count(17), 80);
        Sentences.says("18 how many changes can be undone");
        x = new QuarryBlends();
        for (int change = 0; change < 8; change++) {
            due("behind " + change, x.count(18), Math.min(6, change));
            x.mend();
        }
        Sentences.says("Returns the number;");
        x.undo();
        due("five", x.count(18), 5);
        Sentences.says("BAD_VALUE if what is out of range.");
        for (int what : Checks.outside(0, 18)) {
            due("count(" + what + ")", x.count(what), BAD_VALUE);
        }
        Sentences.whole();
    }

    /** Twenty tonnes a day from the second day on: one truck, a way of two hours, in days of two hours, for a cost of 4. */
    private static QuarryBlends slow() {
        QuarryBlends x = new QuarryBlends();
        x.set(TRUCKS, 1);
        x.set(HOURS, 2);
        x.face(1000, 5, 2);
        x.contract(30, 0, 100, 0, 100, 3);
        x.contract(30, 0, 100, 0, 100, 5);
        return x;
    }

    private static void then() {
        Sentences.under("Promise 14: then");
        Sentences.says("`int then(int days, int what)`: Tells what would be in some days.");
        QuarryBlends x = slow();
        String before = Checks.stateOf(x);
        int would = x.then(3, 0);
        Checks.due("the state", Checks.stateOf(x), before);
        due("it comes so", x.pass(3), would);
        Sentences.says("- `days`: 1 to 30");
        due("then(1, 0)", x.then(1, 0), 1);
        due("then(30, 0)", x.then(30, 0), 1);
        for (int days : Checks.outside(1, 30)) {
            due("then(" + days + ", 0)", x.then(days, 0), BAD_VALUE);
            due("then(" + days + ", 1)", x.then(days, 1), BAD_VALUE);
        }
        Sentences.says("- `what`: 0 how many contracts would be delivered in them,");
        x = slow();
        int[] delivered = {0, 0, 1, 2, 2};
        for (int days = 1; days <= 5; days++) {
            due("then(" + days + ", 0)", x.then(days, 0), delivered[days - 1]);
        }
        due("without contracts", new QuarryBlends().then(30, 0), 0);
        Sentences.says("1 what these would pay less the costs in these days, and 1000000");
        int[] worth = {-4, -8, 90 - 12, 240 - 16, 240 - 20};
        for (int days = 1; days <= 5; days++) {
            due("then(" + days + ", 1)", x.then(days, 1), 1000000 + worth[days - 1]);
        }
        x.pass(3);
        due("in these days alone", x.then(1, 1), 1000000 + 150 - 4);
        due("neither gain nor loss", new QuarryBlends().then(30, 1), 1000000);
        Sentences.says("Returns the number (that of 1 may be below 0);");
        x = new QuarryBlends();
        x.set(TRUCKS, 20);
        x.set(LOAD, 1);
        x.set(HOURS, 24);
        x.set(COST, 99);
        x.face(9999, 1, 12);
        x.face(9999, 9, 12);
        due("then(30, 1)", x.then(30, 1), 1000000 - 30 * 24 * 20 * 99);
        // 21 days of 24 hours: 42 times 20 trucks are sent for 12 * 99
        due("then(21, 1)", x.then(21, 1), 1000000 - 42 * 20 * 12 * 99);
        due("then(22, 1)", x.then(22, 1), 1000000 - 44 * 20 * 12 * 99);
        Sentences.says("BAD_VALUE if an argument is out of range.");
        for (int what : Checks.outside(0, 1)) {
            due("then(1, " + what + ")", x.then(1, what), BAD_VALUE);
        }
        due("then(0, 2)", x.then(0, 2), BAD_VALUE);
        Sentences.whole();
    }

    /** A hundred tonnes of the hardness 5: by the gap g, (10 - g) * 5 are fine and g * 5 are coarse. */
    private static QuarryBlends withHundred() {
        QuarryBlends x = new QuarryBlends();
        x.set(TRUCKS, 5);
        x.set(HOURS, 2);
        x.set(CRUSH, 200);
        x.face(100, 5, 1);
        return x;
    }

    private static void bestGap() {
        Sentences.under("Promise 15: bestGap");
        Sentences.says("`int bestGap(int days, int what)`: Finds the GAP by which contracts would pay the most in some days, of several the least one.");
        for (int gap = 1; gap <= 9; gap++) {
            QuarryBlends x = withHundred();
            x.contract(gap * 5, 0, 0, 100, 100, 7);
            due("coarse stone of the gap " + gap + " or more", x.bestGap(1, 0), gap);
            x.contract((10 - gap) * 5, 100, 100, 0, 0, 6);
            due("and fine stone of it or less", x.bestGap(1, 0), gap);
            due("both pay", x.bestGap(1, 1), gap * 35 + (10 - gap) * 30);
            due("GAP stays", x.count(14), 5);
        }
        due("nothing pays", new QuarryBlends().bestGap(1, 0), 1);
        QuarryBlends x = slow();
        x.set(GAP, 9);
        x.set(COST, 99);
        due("all pay the same", x.bestGap(3, 0), 1);
        due("whatever the costs are", x.bestGap(3, 1), 90);
        x.pass(3);
        due("in these days alone", x.bestGap(1, 1), 150);
        due("and all pay the same", x.bestGap(1, 0), 1);
        Sentences.says("- `days`: 1 to 30");
        due("bestGap(30, 1)", x.bestGap(30, 1), 150);
        for (int days : Checks.outside(1, 30)) {
            due("bestGap(" + days + ", 0)", x.bestGap(days, 0), BAD_VALUE);
            due("bestGap(" + days + ", 1)", x.bestGap(days, 1), BAD_VALUE);
        }
        Sentences.says("- `what`: 0 the setting,");
        x = withHundred();
        x.contract(42, 0, 0, 100, 100, 99);
        due("the most gap", x.bestGap(1, 0), 9);
        Sentences.says("1 what they would pay");
        due("42 * 99", x.bestGap(1, 1), 4158);
        due("nothing", new QuarryBlends().bestGap(30, 1), 0);
        Sentences.says("Returns the number;");
        x.drop(0);
        x.contract(42, 0, 0, 100, 100, 0);
        due("a price of 0 pays by each gap", x.bestGap(1, 0), 1);
        due("nothing", x.bestGap(1, 1), 0);
        x = withHundred();
        x.contract(50, 0, 0, 100, 100, 1);
        x.contract(50, 100, 100, 0, 0, 1);
        due("50 coarse tonnes would come by a gap of 10, 50 fine ones by 0", x.bestGap(1, 1), 0);
        due("the least one then", x.bestGap(1, 0), 1);
        Sentences.says("BAD_VALUE if an argument is out of range.");
        for (int what : Checks.outside(0, 1)) {
            due("bestGap(1, " + what + ")", x.bestGap(1, what), BAD_VALUE);
        }
        due("bestGap(0, 2)", x.bestGap(0, 2), BAD_VALUE);
        Sentences.whole();
    }

    private static void leastTrucks() {
        Sentences.under("Promise 16: leastTrucks");
        Sentences.says("`int leastTrucks(int days, int contracts)`: Finds the least TRUCKS, from the least one that can be set up to 20,");
        for (int away : new int[] {0, 1, 3, 20}) {
            QuarryBlends x = Checks.withBins(50, 50, 50);
            x.set(TRUCKS, away);
            x.face(9999, 5, 12);
            x.pass(1);
            x.contract(100, 0, 100, 0, 100, 1);
            due("away", x.count(3), away);
            due("none is needed, but " + away + " are away", x.leastTrucks(1, 1), away);
            x.set(TRUCKS, 20);
            due("others wait", x.leastTrucks(1, 1), away);
        }
        QuarryBlends last = hourly(3, 20, 50);
        last.face(40, 5, 1);
        last.face(20, 5, 12);
        last.pass(2);
        due("truck 2 alone is away", last.count(3) * 100 + last.truck(2, 2), 112);
        due("and has to be there", last.leastTrucks(1, 0), 3);
        for (int needed : new int[] {1, 2, 19, 20}) {
            QuarryBlends x = hourly(needed == 20 ? 0 : 20, 10, 200);
            x.face(9999, 5, 1);
            x.contract(needed * 10, 0, 100, 0, 100, 1);
            due("so many loads in the second day", x.leastTrucks(2, 1), needed);
            due("TRUCKS stays", x.count(11), needed == 20 ? 0 : 20);
        }

        Sentences.says("by which at least so many contracts would be delivered in some days.");
        QuarryBlends x = slow();
        due("leastTrucks(2, 0)", x.leastTrucks(2, 0), 0);
        due("leastTrucks(2, 1)", x.leastTrucks(2, 1), 2);
        due("leastTrucks(2, 2)", x.leastTrucks(2, 2), 3);
        due("leastTrucks(4, 2)", x.leastTrucks(4, 2), 1);
        x.contract(1, 0, 100, 0, 100, 1);
        due("more than so many", x.leastTrucks(2, 1), 1);
        x.drop(2);
        due("one in three days", x.pass(3), 1);
        due("the other one in the next day", x.leastTrucks(1, 1), 1);
        due("not both", x.leastTrucks(1, 2), NONE);
        Sentences.says("- `days`: 1 to 30");
        due("leastTrucks(1, 0)", slow().leastTrucks(1, 0), 0);
        due("leastTrucks(30, 2)", slow().leastTrucks(30, 2), 1);
        for (int days : Checks.outside(1, 30)) {
            due("leastTrucks(" + days + ", 0)", x.leastTrucks(days, 0), BAD_VALUE);
            due("leastTrucks(" + days + ", 99)", x.leastTrucks(days, 99), BAD_VALUE);
        }
        Sentences.says("- `contracts`: 0 or more");
        x = slow();
        due("leastTrucks(30, 0)", x.leastTrucks(30, 0), 0);
        for (int contracts : new int[] {3, 12, 13, 256, 65536, Integer.MAX_VALUE}) {
            due("leastTrucks(30, " + contracts + ")", x.leastTrucks(30, contracts), NONE);
        }
        for (int contracts : new int[] {-1, -6, -256, -65536, Integer.MIN_VALUE}) {
            due("leastTrucks(30, " + contracts + ")", x.leastTrucks(30, contracts), BAD_VALUE);
        }
        Sentences.says("Returns the setting;");
        due("leastTrucks(3, 2)", x.leastTrucks(3, 2), 2);
        Sentences.says("BAD_VALUE if an argument is out of range;");
        due("leastTrucks(0, 3)", x.leastTrucks(0, 3), BAD_VALUE);
        due("leastTrucks(1, -1)", x.leastTrucks(1, -1), BAD_VALUE);
        Sentences.says("NONE if there is none.");
        due("leastTrucks(1, 1), no load comes", x.leastTrucks(1, 1), NONE);
        x = hourly(3, 9, 200);
        x.face(9999, 5, 1);
        x.contract(180, 0, 100, 0, 100, 1);
        due("20 do for 180 tonnes", x.leastTrucks(2, 1), 20);
        x.contract(181, 0, 100, 0, 100, 1);
        x.drop(0);
        due("21 would do for 181", x.leastTrucks(2, 1), NONE);
        due("without contracts", new QuarryBlends().leastTrucks(30, 1), NONE);
        Sentences.whole();
    }
}
