/** The document's terms, sentence by sentence: an hour and a day, texts, constants. */
public final class SentencesOfDaysAndTextsTest {
    private static final int BAD_VALUE = Checks.BAD_VALUE, BAD_TEXT = Checks.BAD_TEXT, TOO_MANY = Checks.TOO_MANY;
    private static final int NOT_POSSIBLE = Checks.NOT_POSSIBLE, NONE = Checks.NONE;
    private static final int TRUCKS = Checks.TRUCKS, LOAD = Checks.LOAD, HOURS = Checks.HOURS;
    private static final int GAP = Checks.GAP, CRUSH = Checks.CRUSH, COST = Checks.COST;
    private static final String LETTERS = "fcgdmx", DIGITS = "0123456789", DIGITS_OF_ONE = "123456789";

    public static void main(String[] args) {
        hours();
        sending();
        crushing();
        days();
        orders();
        whatOrdersDo();
        faults();
        constants();
        kindsOfCalls();
        Sentences.end();
    }

    private static void due(String call, long got, long want) {
        Checks.due(call, got, want);
    }

    /** A quarry of days of one hour. */
    private static QuarryBlends hourly(int trucks, int load, int crush) {
        QuarryBlends x = new QuarryBlends();
        x.set(HOURS, 1);
        x.set(TRUCKS, trucks);
        x.set(LOAD, load);
        x.set(CRUSH, crush);
        return x;
    }

    private static void hours() {
        Sentences.under("An hour, a day");
        Sentences.says("Hours are counted from 0 on, over all days.");
        QuarryBlends x = new QuarryBlends();
        due("at first", x.count(0), 0);
        x.pass(2);
        due("behind two days of 8", x.count(0), 16);
        x.set(HOURS, 1);
        x.face(20, 5, 3);
        x.pass(1);
        due("behind one of 1", x.count(0), 17);
        due("sent in hour 16", x.truck(0, 2), 19);

        Sentences.says("In an hour: 1. Trucks that come back in it bring their loads in front of the crusher, and wait.");
        for (int way : new int[] {1, 2, 12}) {
            x = hourly(1, 20, 1);
            x.face(20, 5, way);
            x.pass(way);
            due("ahead of hour " + way + ", it is away", x.truck(0, 2), way);
            due("ahead of hour " + way + ", nothing lies there", x.waiting(5), 0);
            x.pass(1);
            due("in hour " + way + ", it waits", x.truck(0, 2), NONE);
            due("in hour " + way + ", the load came, and one tonne was crushed", x.waiting(5), 19);
        }
    }

    private static void sending() {
        Sentences.says("2. Each truck that waits is sent, in the order of their numbers, to the face with the most tonnes left, "
            + "of several the lowest one:");
        QuarryBlends x = hourly(2, 10, 50);
        x.face(30, 5, 1);
        x.face(29, 5, 3);
        x.pass(1);
        due("30 of 30 and 29: truck 0", x.truck(0, 0), 0);
        due("29 of 20 and 29: truck 1", x.truck(1, 0), 1);
        x.pass(1);
        due("20 of 20 and 19: truck 0, back at once", x.truck(0, 0), 0);
        due("truck 1 does not wait", x.truck(1, 3), 1);
        x.set(TRUCKS, 3);
        x.pass(1);
        due("19 of 10 and 19: truck 0 goes ahead of truck 2", x.truck(0, 0), 1);
        due("10 of 10 and 9: truck 2", x.truck(2, 0), 0);
        x = hourly(7, 20, 50);
        x.face(20, 5, 12);
        x.face(40, 5, 12);
        x.face(40, 5, 12);
        x.pass(1);
        int[] from = {1, 2, 0, 1, 2, NONE, NONE};
        for (int truck = 0; truck < from.length; truck++) {
            due("equal faces: truck " + truck, x.truck(truck, 0), from[truck]);
        }

        Sentences.says("it takes LOAD tonnes, or what is left, away from the face at once, and comes back so many hours later as the way is long.");
        for (int tonnes : new int[] {1, 19, 20, 21}) {
            x = hourly(1, 20, 50);
            x.pass(5);
            x.face(tonnes, 5, 12);
            x.pass(1);
            due("the load of " + tonnes, x.truck(0, 1), Math.min(20, tonnes));
            due("left of " + tonnes, x.ofFace(0, 0), Math.max(0, tonnes - 20));
            due("taken of " + tonnes, x.ofFace(0, 4), Math.min(20, tonnes));
            due("sent in hour 5, 12 hours", x.truck(0, 2), 17);
        }

        Sentences.says("If no face has any, it waits on.");
        x = hourly(2, 20, 50);
        x.pass(1);
        due("no face: truck 0", x.truck(0, 3), 0);
        x.face(20, 5, 1);
        x.pass(3);
        due("truck 1 waits on", x.truck(1, 0), NONE);
        due("it was not sent", x.truck(1, 3), 0);
        due("truck 0 is back and waits on", x.truck(0, 0), NONE);
        due("it was sent once", x.truck(0, 3), 1);
        due("waiting costs nothing", x.count(10), 2);
        x.face(60, 5, 2);
        x.pass(1);
        due("stone came: truck 0", x.truck(0, 0), 1);
        due("stone came: truck 1", x.truck(1, 0), 1);

        Sentences.says("COST for each hour of the way is paid at once.");
        for (int cost : new int[] {0, 7, 99}) {
            x = hourly(1, 20, 50);
            x.set(COST, cost);
            x.face(20, 5, 12);
            x.pass(1);
            due("behind the first of twelve hours for " + cost, x.count(10), 12 * cost);
            x.set(COST, 50);
            x.pass(13);
            due("no more behind it", x.count(10), 12 * cost);
        }
    }

    private static void crushing() {
        Sentences.says("3. The crusher crushes as much as it can in an hour, or all that there is, the softest stone first; of each hardness at once.");
        for (int can : new int[] {1, 19, 20, 21}) {
            QuarryBlends x = hourly(1, 20, can);
            x.face(20, 5, 1);
            x.pass(2);
            due("crushed of 20 by " + can, x.count(5), Math.min(20, can));
            due("lies there of 20 by " + can, x.count(4), Math.max(0, 20 - can));
        }
        QuarryBlends x = hourly(3, 20, 30);
        x.face(20, 9, 1);
        x.face(20, 1, 1);
        x.face(20, 5, 1);
        x.pass(2);
        due("all of the softest", x.waiting(1), 0);
        due("some of the next", x.waiting(5), 10);
        due("none of the hardest", x.waiting(9), 20);
        x = hourly(2, 3, 50);
        x.face(3, 5, 1);
        x.face(3, 5, 1);
        x.pass(2);
        due("6 tonnes of 5 at once: 6 * 5 * 5 / 100 fine", x.bin(0), 1);
        due("and coarse", x.bin(2), 1);
        x = hourly(2, 3, 50);
        x.face(3, 5, 1);
        x.face(3, 4, 1);
        x.pass(2);
        due("3 tonnes each of 5 and 4: fine", x.bin(0), 0);
        due("and coarse", x.bin(2), 0);
        x = hourly(1, 3, 50);
        x.face(6, 5, 1);
        x.pass(3);
        due("3 tonnes in each of two hours: crushed", x.count(5), 6);
        due("and fine", x.bin(0), 0);
    }

    private static void days() {
        Sentences.says("A day has HOURS hours.");
        for (int hours : new int[] {1, 2, 8, 24}) {
            QuarryBlends x = new QuarryBlends();
            x.set(HOURS, hours);
            x.pass(1);
            due("hours of a day", x.count(0), hours);
            x.set(HOURS, 25 - hours);
            x.pass(2);
            due("and of two others", x.count(0), hours + 2 * (25 - hours));
        }

        Sentences.says("Behind its last hour the contracts are looked at in the order of their numbers: each one with no reason against it is delivered:");
        QuarryBlends x = new QuarryBlends();
        x.set(HOURS, 3);
        x.set(TRUCKS, 1);
        x.face(40, 5, 1);
        x.contract(40, 0, 100, 0, 100, 1);
        x.contract(10, 0, 100, 0, 100, 1);
        due("pass(1): 20 tonnes in the last hour but one, 40 in the last one", x.pass(1), 1);
        due("the second one is left", x.ofContract(0, 0), 10);
        due("for there is no more stone", x.ofContract(0, 6), 1);
        x = Checks.withBins(10, 20, 30);
        x.contract(61, 0, 100, 0, 100, 1);
        x.contract(10, 100, 100, 0, 0, 2);
        x.contract(1, 100, 100, 0, 0, 3);
        x.contract(50, 0, 100, 0, 100, 4);
        x.contract(1, 0, 100, 0, 100, 5);
        due("the second and the fourth: pass(1)", x.pass(1), 2);
        int[] prices = {1, 3, 5};
        for (int contract = 0; contract < prices.length; contract++) {
            due("the price of " + contract, x.ofContract(contract, 5), prices[contract]);
        }
        due("three are left", x.count(2), 3);
        due("the next day: pass(1)", x.pass(1), 0);

        Sentences.says("its blend by rule is taken out of the bins, and its tonnes times its price are paid to the quarry.");
        for (int price : new int[] {0, 1, 99}) {
            x = Checks.withBins(40, 30, 50);
            x.contract(60, 0, 100, 0, 40, price);
            int paidBefore = x.count(9);
            due("pass(1)", x.pass(1), 1);
            due("34 fine", x.bin(0), 34);
            due("0 middle", x.bin(1), 0);
            due("26 coarse", x.bin(2), 26);
            due("60 tonnes for " + price, x.count(9) - paidBefore, 60 * price);
        }
        x = new QuarryBlends();
        x.set(TRUCKS, 20);
        x.set(LOAD, 40);
        x.set(CRUSH, 200);
        x.face(500, 5, 1);
        x.contract(500, 0, 100, 0, 100, 99);
        x.pass(1);
        due("500 tonnes for 99", x.count(9), 49500);
        due("all of them", x.bin(0) + x.bin(1) + x.bin(2), 0);

        Sentences.says("Trucks that are on their way go on in the next day.");
        x = new QuarryBlends();
        x.set(HOURS, 5);
        x.set(TRUCKS, 1);
        x.set(CRUSH, 1);
        x.face(20, 9, 12);
        x.pass(2);
        due("behind hour 9", x.truck(0, 2), 12);
        x.pass(1);
        due("behind hour 14", x.truck(0, 2), NONE);
        due("crushed in the hours 12, 13 and 14", x.waiting(9), 17);
        Sentences.whole();
    }

    private static QuarryBlends withPad(String text) {
        QuarryBlends x = new QuarryBlends();
        Checks.putText(x, text);
        return x;
    }

    private static void fault(String text, int due) {
        due("fault() of \"" + text + "\"", withPad(text).fault(), due);
    }

    private static void faultsOfParts(String... parts) {
        StringBuilder text = new StringBuilder();
        for (String part : parts) {
            fault(text.toString(), text.length());
            text.append(part);
        }
        fault(text.toString(), NONE);
    }

    private static void orders() {
        Sentences.under("Texts");
        Sentences.says("The pad is a text of at most 80 characters, a row of orders:");
        QuarryBlends x = withPad("m;".repeat(39) + "g9");
        due("80 characters", x.count(17), 80);
        due("one more", x.put(';'), TOO_MANY);
        due("fault()", x.fault(), NONE);
        due("carryOut()", x.carryOut(), 40);
        due("the last order as well", x.count(14), 9);

        Sentences.says("text = order { \";\" order }");
        fault("m", NONE);
        fault("m;m", NONE);
        fault("m;g1;m", NONE);
        fault(";m", 0);
        fault("m;;m", 2);
        fault("m;", 2);
        fault("mm", 1);
        fault("g1g1", 2);
        fault("d1m", 2);
        fault("m,m", 1);
        Sentences.says("order = \"f\" number \"*\" digit \"+\" number");
        faultsOfParts("f", "0", "*", "1", "+", "0");
        faultsOfParts("f", "9999", "*", "9", "+", "9999");
        fault("f1*0+1", 3);
        fault("f1*12+1", 4);
        fault("f*1+1", 1);
        fault("f1*+1", 3);
        fault("f1*1+;m", 5);
        fault("f1+1*1", 2);
        Sentences.says("| \"c\" number \":\" number \"-\" number \"/\" number \"-\" number \"$\" number");
        faultsOfParts("c", "0", ":", "0", "-", "0", "/", "0", "-", "0", "$", "0");
        faultsOfParts("c", "9999", ":", "9999", "-", "9999", "/", "9999", "-", "9999", "$", "9999");
        fault("c1:2/3", 4);
        fault("c1:2-3-4", 6);
        fault("c1:2-3/4/5", 8);
        fault("c1:2-3/4-5;", 10);
        fault("c1:2-3/4-5$;", 11);
        fault("c1:2-3/4-5$6$", 12);
        fault("c:1", 1);
        fault("c1:-1", 3);
        Sentences.says("| \"g\" digit");
        faultsOfParts("g", "1");
        faultsOfParts("g", "9");
        fault("g0", 1);
        fault("g10", 2);
        fault("g;m", 1);
        Sentences.says("| \"d\" number");
        faultsOfParts("d", "0");
        faultsOfParts("d", "9999");
        fault("d;m", 1);
        fault("d-1", 1);
        Sentences.says("| \"m\"");
        faultsOfParts("m");
        fault("m0", 1);
        Sentences.says("| \"x\" number");
        faultsOfParts("x", "0");
        faultsOfParts("x", "9999");
        fault("x;m", 1);
        fault("xm", 1);
    }

    private static QuarryBlends carriedOut(String text, int orders) {
        QuarryBlends x = withPad(text);
        due("carryOut() of \"" + text + "\"", x.carryOut(), orders);
        return x;
    }

    private static void whatOrdersDo() {
        Sentences.says("\"f\": a face with tonnes, hardness and way;");
        QuarryBlends x = carriedOut("f1*1+1;f9999*9+12", 2);
        int[] face = {9999, 9, 12, 0, 0};
        for (int what = 0; what < face.length; what++) {
            due("ofFace(1, " + what + ")", x.ofFace(1, what), face[what]);
        }
        for (String wrong : new String[] {"f0*1+1", "f1*1+0", "f1*1+13"}) {
            due("faces behind " + wrong, carriedOut(wrong, 0).count(1), 0);
        }
        due("nine faces", carriedOut("f1*1+1" + ";f1*1+1".repeat(8), 8).count(1), 8);

        Sentences.says("\"c\": a contract: tonnes, the least and the most fine hundredths, the least and the most coarse ones, price;");
        x = carriedOut("c1:0-0/0-0$0;c500:11-22/33-100$99", 2);
        int[] contract = {500, 11, 22, 33, 100, 99};
        for (int what = 0; what < contract.length; what++) {
            due("ofContract(1, " + what + ")", x.ofContract(1, what), contract[what]);
        }
        for (String wrong : new String[] {"c0:0-0/0-0$0", "c501:0-0/0-0$0", "c1:1-0/0-0$0", "c1:0-101/0-0$0", "c1:0-0/1-0$0",
            "c1:0-0/0-101$0", "c1:0-0/0-0$100"}) {
            due("contracts behind " + wrong, carriedOut(wrong, 0).count(2), 0);
        }

        Sentences.says("\"g\": set() of GAP;");
        due("GAP behind g1", carriedOut("g1", 1).count(14), 1);
        due("GAP behind g9", carriedOut("g1;g9", 2).count(14), 9);
        Sentences.says("\"d\": pass() days;");
        due("hours behind d1", carriedOut("d1", 1).count(0), 8);
        due("hours behind d30", carriedOut("d30", 1).count(0), 240);
        due("hours behind d31", carriedOut("d31", 0).count(0), 0);
        due("hours behind d0", carriedOut("d0", 0).count(0), 0);
        Sentences.says("\"m\": mend();");
        x = new QuarryBlends();
        Checks.crushAtOnce(x, 100, 9, 5);
        due("the wear", x.count(6), 900);
        Checks.putText(x, "m");
        x.carryOut();
        due("the wear behind m", x.count(6), 0);
        Sentences.says("\"x\": a contract is dropped.");
        x = carriedOut("c1:0-0/0-0$0;c2:0-0/0-0$0;c3:0-0/0-0$0;x1", 4);
        due("contracts", x.count(2), 2);
        due("the one behind it moved up", x.ofContract(1, 0), 3);
        due("contracts behind x1 of one", carriedOut("c1:0-0/0-0$0;x1", 1).count(2), 1);

        Sentences.says("A digit is 1 to 9, a number 0 to 9999, without leading zeros.");
        for (char sign = 33; sign < 127; sign++) {
            fault("g" + sign, DIGITS_OF_ONE.indexOf(sign) >= 0 ? NONE : 1);
            fault("d" + sign, DIGITS.indexOf(sign) >= 0 ? NONE : 1);
        }
        for (int number : new int[] {0, 1, 9, 10, 99, 100, 999, 1000, 9999}) {
            fault("x" + number, NONE);
        }
        fault("x00", 2);
        fault("x01", 2);
        fault("x0000", 2);
        fault("f00*1+1", 2);
        fault("f1*1+09", 6);
        fault("c1:2-3/4-05$6", 10);
        fault("c1:2-3/4-5$00", 12);
    }

    /** Each character is tried at each place behind a good beginning: it's the fault if none of those that may stand there. */
    private static void faults() {
        Sentences.says("The fault is the index of the first character that cannot stand at its place when the text is read from left to right");
        String[][] places = {{"f", LETTERS}, {"1", DIGITS}, {"2", DIGITS + "*"}, {"*", DIGITS + "*"}, {"3", DIGITS_OF_ONE}, {"+", "+"},
            {"0", DIGITS}, {";", ";"}, {"c", LETTERS}, {"9", DIGITS}, {"9", DIGITS + ":"}, {"9", DIGITS + ":"}, {"9", DIGITS + ":"},
            {":", ":"}, {"0", DIGITS}, {"-", "-"}, {"7", DIGITS}, {"/", DIGITS + "/"}, {"8", DIGITS}, {"-", DIGITS + "-"}, {"1", DIGITS},
            {"0", DIGITS + "$"}, {"$", DIGITS + "$"}, {"1", DIGITS}, {"0", DIGITS + ";"}, {";", DIGITS + ";"}, {"g", LETTERS},
            {"5", DIGITS_OF_ONE}, {";", ";"}, {"d", LETTERS}, {"1", DIGITS}, {"0", DIGITS + ";"}, {"0", DIGITS + ";"}, {"0", DIGITS + ";"},
            {";", ";"}, {"m", LETTERS}, {";", ";"}, {"x", LETTERS}, {"0", DIGITS}, {";", ";"}, {"m", LETTERS}};
        StringBuilder text = new StringBuilder();
        for (String[] place : places) {
            for (char sign = 33; sign < 127; sign++) {
                boolean atFault = withPad(text.toString() + sign).fault() == text.length();
                due("\"" + sign + "\" behind \"" + text + "\" is the fault", atFault ? 1 : 0, place[1].indexOf(sign) < 0 ? 1 : 0);
            }
            text.append(place[0]);
        }
        fault(text.toString(), NONE);
        fault("g0;g0;?", 1);
        fault("m;?;?", 2);
        fault("~", 0);
        fault("m".repeat(80), 1);
        fault("m;".repeat(39) + "mm", 79);

        Sentences.says("(also of a digit by which a number would be above 9999);");
        fault("d9999", NONE);
        fault("d10000", 5);
        fault("d99990", 5);
        fault("x12345;m", 5);
        fault("f10000*1+1", 5);
        fault("f1*1+10000", 9);
        fault("c10000:1-1/1-1$1", 5);
        fault("c1:10000-1/1-1$1", 7);
        fault("c1:1-10000/1-1$1", 9);
        fault("c1:1-1/10000-1$1", 11);
        fault("c1:1-1/1-10000$1", 13);
        fault("c1:1-1/1-1$10000", 15);
        fault("d4294967297", 5);

        Sentences.says("if there is none and the text ends too early (also if it is empty), it is the length of the text.");
        fault("", 0);
        fault("d", 1);
        fault("m;", 2);
        fault("g1;d", 4);
        fault("c1:2-3/4-5$", 11);
        fault("m;".repeat(40), 80);
        fault("m;".repeat(39) + ";d", 78);
        due("fault() of a wiped pad", wiped("g"), 0);
    }

    private static int wiped(String text) {
        QuarryBlends x = withPad(text);
        x.wipe();
        return x.fault();
    }

    private static void constants() {
        Sentences.says("The constants: `NO_SUCH = -1, BAD_VALUE = -2, BAD_TEXT = -3, TOO_MANY = -4, NOT_POSSIBLE = -5, NONE = -6`: "
            + "Error codes, and NONE: there is none.");
        due("NO_SUCH", QuarryBlends.NO_SUCH, -1);
        due("BAD_VALUE", QuarryBlends.BAD_VALUE, -2);
        due("BAD_TEXT", QuarryBlends.BAD_TEXT, -3);
        due("TOO_MANY", QuarryBlends.TOO_MANY, -4);
        due("NOT_POSSIBLE", QuarryBlends.NOT_POSSIBLE, -5);
        due("NONE", QuarryBlends.NONE, -6);
        Sentences.says("`TRUCKS = 0, LOAD = 1, HOURS = 2, GAP = 3, CRUSH = 4, COST = 5`: Settings.");
        int[] settings = {QuarryBlends.TRUCKS, QuarryBlends.LOAD, QuarryBlends.HOURS, QuarryBlends.GAP, QuarryBlends.CRUSH, QuarryBlends.COST};
        for (int setting = 0; setting < settings.length; setting++) {
            due("setting " + setting, settings[setting], setting);
        }
    }

    private static void kindsOfCalls() {
        Sentences.says("Ahead of the calls `set`, `face`, `contract`, `drop`, `mend`, `pass` the interface says: ---- changes.");
        QuarryBlends x = new QuarryBlends();
        x.set(GAP, 5);
        due("changes by set()", x.count(18), 1);
        x.face(1, 1, 1);
        due("changes by face()", x.count(18), 2);
        x.contract(1, 60, 100, 60, 100, 0);
        due("changes by contract()", x.count(18), 3);
        x.drop(0);
        due("changes by drop()", x.count(18), 4);
        x.mend();
        due("changes by mend()", x.count(18), 5);
        x.pass(1);
        due("changes by pass()", x.count(18), 6);

        Sentences.says("Ahead of the calls `ofFace`, `truck`, `ofContract`, `bin`, `waiting`, `count` the interface says: ---- what there is.");
        x = new QuarryBlends();
        x.face(100, 5, 12);
        x.contract(80, 0, 100, 0, 100, 1);
        x.pass(1);
        String before = Checks.stateOf(x);
        Checks.due("asked again", Checks.stateOf(x), before);
        due("changes", x.count(18), 3);

        Sentences.says("Ahead of the calls `then`, `bestGap`, `leastTrucks` the interface says: ---- what if; nothing changes "
            + "(the bound of hours does not matter).");
        due("then(30, 0)", x.then(30, 0), 1);
        due("bestGap(30, 1)", x.bestGap(30, 1), 80);
        due("leastTrucks(30, 1), three are away", x.leastTrucks(30, 1), 3);
        Checks.due("the state", Checks.stateOf(x), before);
        due("changes", x.count(18), 3);
        hoursDoNotMatter();

        Sentences.says("Ahead of the calls `put`, `wipe`, `fault`, `carryOut` the interface says: ---- texts.");
        Checks.putText(x, "g9");
        due("fault()", x.fault(), NONE);
        due("wipe()", x.wipe(), 2);
        due("carryOut()", x.carryOut(), BAD_TEXT);
        Checks.due("the state", Checks.stateOf(x), before);
        due("changes", x.count(18), 3);
        Sentences.says("Ahead of the calls `undo`, `save`, `restore` the interface says: ---- undo, saving.");
        due("save(0)", x.save(0), 1);
        due("save() is no change", x.count(18), 3);
        due("undo()", x.undo(), 2);
        due("undo() is no change", x.count(18), 2);
        due("restore(0)", x.restore(0), 1);
        due("restore() is one", x.count(18), 3);
        Checks.due("the state", Checks.stateOf(x), before);
        Sentences.whole();
    }

    private static void hoursDoNotMatter() {
        QuarryBlends x = new QuarryBlends();
        x.set(HOURS, 24);
        for (int month = 0; month < 13; month++) {
            x.pass(30);
        }
        x.pass(26);
        x.set(HOURS, 15);
        x.pass(1);
        x.face(20, 5, 1);
        x.contract(20, 0, 100, 0, 100, 3);
        due("pass(1) behind hour 9998", x.pass(1), NOT_POSSIBLE);
        due("then(30, 0) behind it", x.then(30, 0), 1);
        due("then(30, 1) behind it", x.then(30, 1), 1000000 + 60 - 2);
        due("bestGap(30, 1) behind it", x.bestGap(30, 1), 60);
        due("leastTrucks(30, 1) behind it", x.leastTrucks(30, 1), 1);
        due("hours", x.count(0), 9999);
        due("then(31, 0) behind it", x.then(31, 0), BAD_VALUE);
    }
}
