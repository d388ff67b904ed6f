/** Promises 17 to 20: put, wipe, fault, carryOut. */
public final class TextsTest {
    private static final int BAD_VALUE = Checks.BAD_VALUE, BAD_TEXT = Checks.BAD_TEXT, TOO_MANY = Checks.TOO_MANY;
    private static final int NOT_POSSIBLE = Checks.NOT_POSSIBLE, NONE = Checks.NONE;
    private static final int TRUCKS = Checks.TRUCKS, HOURS = Checks.HOURS, GAP = Checks.GAP;

    public static void main(String[] args) {
        put();
        putUpToTheLimit();
        putInOrder();
        wipe();
        faults();
        carryOut();
        carryOutUpToAnError();
        carryOutAsMuchAsThePadHolds();
        carryOutIsOneChange();
        carryOutOfABadText();
        Checks.end();
    }

    private static void put() {
        QuarryBlends x = new QuarryBlends();
        long[] wrong = {0L, -1L, 32L, 127L, 128L, 255L, 0x4100L, 0x410042L, 0x4100000042L, 0x100000000000042L, 0x2041L, 0x4120L,
            0x7f41L, 0x417fL, 0x4141414141414120L, 0x2041414141414141L, 0xc141414141414141L, 0x4141414141414100L,
            Long.MIN_VALUE, Long.MAX_VALUE};
        for (long characters : wrong) {
            Checks.due("put(" + Long.toHexString(characters) + ")", x.put(characters), BAD_VALUE);
        }
        Checks.due("length", x.count(17), 0);
        Checks.due("put of the least code", x.put(33), 1);
        Checks.due("put of the highest code", x.put(126), 2);
        Checks.due("put of eight", x.put(0x7e7e7e7e7e7e7e7eL), 10);
        Checks.due("put of seven", x.put(0x21212121212121L), 17);
        Checks.due("no change", x.count(18), 0);
    }

    private static void putUpToTheLimit() {
        QuarryBlends x = new QuarryBlends();
        for (int i = 1; i <= 9; i++) {
            x.put(Checks.packed("mmmmmmmm"));
        }
        x.put('m');
        Checks.due("put of eight to 81", x.put(Checks.packed("mmmmmmmm")), TOO_MANY);
        Checks.due("a wrong put of eight to 81", x.put(Checks.packed("mmmmmm m")), BAD_VALUE);
        Checks.due("put of seven to 80", x.put(Checks.packed("mmmmmmm")), 80);
        Checks.due("put of one to 81", x.put('m'), TOO_MANY);
        Checks.due("a wrong put to 81", x.put(0), BAD_VALUE);
        Checks.due("length", x.count(17), 80);
        x.wipe();
        for (int i = 1; i <= 9; i++) {
            x.put(Checks.packed("mmmmmmmm"));
        }
        Checks.due("put of eight to 80", x.put(Checks.packed("mmmmmmmm")), 80);
    }

    private static void putInOrder() {
        QuarryBlends x = new QuarryBlends();
        Checks.due("put of 'f1'", x.put('f' << 8 | '1'), 2);
        Checks.due("put of '2*3'", x.put('2' << 16 | '*' << 8 | '3'), 5);
        Checks.due("put of '+4'", x.put('+' << 8 | '4'), 7);
        Checks.due("fault()", x.fault(), NONE);
        Checks.due("carryOut()", x.carryOut(), 1);
        Checks.due("12 tonnes", x.ofFace(0, 0), 12);
        Checks.due("hardness 3", x.ofFace(0, 1), 3);
        Checks.due("way 4", x.ofFace(0, 2), 4);
    }

    private static void wipe() {
        QuarryBlends x = new QuarryBlends();
        Checks.due("wipe() of nothing", x.wipe(), 0);
        Checks.putText(x, "m;m;m;m;m");
        Checks.due("wipe()", x.wipe(), 9);
        Checks.due("length", x.count(17), 0);
        Checks.due("no change", x.count(18), 0);
        Checks.putText(x, "g1");
        Checks.due("nothing stays", x.fault(), NONE);
        Checks.due("wipe() of two", x.wipe(), 2);
        Checks.putText(x, "d12;m");
        x.wipe();
        Checks.putText(x, "d");
        Checks.due("what was wiped is not read", x.fault(), 1);
        Checks.putText(x, "3");
        Checks.due("nor behind a number", x.fault(), NONE);
        Checks.due("carryOut()", x.carryOut(), 1);
        Checks.due("three days of eight hours", x.count(0), 24);
    }

    private static void faults() {
        String[] good = {"m", "g1", "g9", "d0", "d9999", "x0", "x12", "m;m", "f0*1+0", "f9999*9+9999", "c0:0-0/0-0$0",
            "c9999:9999-9999/9999-9999$9999", "g5;d1;m;x0;f1*1+1;c1:2-3/4-5$6;m"};
        for (String text : good) {
            fault(text, NONE);
        }
        Object[][] bad = {{"", 0}, {"g", 1}, {"d", 1}, {"x", 1}, {"f", 1}, {"c", 1}, {"f1", 2}, {"f1*", 3}, {"f1*1", 4}, {"f1*1+", 5},
            {"m;", 2}, {"m;m;", 4}, {"g1;d", 4}, {"c1:2-3/4-5$", 11}, {"c1:2-3/4-5", 10}, {"c1", 2}, {"c1:", 3},
            {"n", 0}, {"M", 0}, {";", 0}, {"1", 0}, {";m", 0}, {"m;;m", 2}, {"mm", 1}, {"m1", 1}, {"g0", 1}, {"g10", 2}, {"gm", 1},
            {"d00", 2}, {"d01", 2}, {"d10000", 5}, {"d99999", 5}, {"d1234;", 6}, {"d12345;", 5}, {"d-1", 1}, {"x/", 1}, {"x:", 1},
            {"f12345*1+1", 5}, {"f01*1+1", 2}, {"f1*0+1", 3}, {"f1*10+1", 4}, {"f1*1+01", 6}, {"f1*1+1;", 7}, {"f1+1*1", 2},
            {"f*1+1", 1}, {"f1*1-1", 4}, {"c1-2", 2}, {"c1:2/3", 4}, {"c1:2-3-4", 6}, {"c1:2-3/4/5", 8}, {"c1:2-3/4-5;", 10},
            {"c1:2-3/4-5$6$", 12}, {"c1:2-3/4-5$67890", 15}, {"c1:2-3/4-05$6", 10}, {"m,m", 1}, {"m;x0;z", 5}, {"~", 0}, {"d1g2", 2}};
        for (Object[] row : bad) {
            fault((String) row[0], (Integer) row[1]);
        }
    }

    private static void fault(String text, int due) {
        QuarryBlends x = new QuarryBlends();
        Checks.putText(x, text);
        Checks.due("fault() of \"" + text + "\"", x.fault(), due);
        Checks.due("fault() again of \"" + text + "\"", x.fault(), due);
        Checks.due("the length of \"" + text + "\"", x.count(17), text.length());
        Checks.due("no change by fault()", x.count(18), 0);
        if (due != NONE) {
            Checks.due("carryOut() of \"" + text + "\"", x.carryOut(), BAD_TEXT);
        }
    }

    private static void carryOut() {
        QuarryBlends x = new QuarryBlends();
        Checks.putText(x, "f300*4+2;c20:10-90/5-80$7;c500:1-2/3-4$5;x1;g8;d2;m");
        Checks.due("carryOut()", x.carryOut(), 7);
        Checks.due("the pad is empty", x.count(17), 0);
        QuarryBlends y = new QuarryBlends();
        y.face(300, 4, 2);
        y.contract(20, 10, 90, 5, 80, 7);
        y.contract(500, 1, 2, 3, 4, 5);
        y.drop(1);
        y.set(GAP, 8);
        y.pass(2);
        y.mend();
        Checks.due("as by calls", Checks.stateOf(x), Checks.stateOf(y));
        Checks.due("one is delivered", x.count(8), 1);
        Checks.due("the wear is gone", x.count(6), 0);
    }

    private static void carryOutUpToAnError() {
        Object[][] rows = {{"d0", 0}, {"d31", 0}, {"d1;d1;d31;d1", 2}, {"x0", 0}, {"c1:0-1/0-1$1;x0;x0;g9", 2}, {"f0*1+1;g9", 0},
            {"f1*1+13;g9", 0}, {"g9;c501:0-0/0-0$0", 1}, {"c1:2-1/0-0$0", 0}, {"c1:0-0/0-101$0", 0}, {"c1:0-0/0-0$100", 0}, {"m;m;f1*1+0", 2}};
        for (Object[] row : rows) {
            QuarryBlends x = new QuarryBlends();
            String text = (String) row[0];
            Checks.putText(x, text);
            Checks.due("fault() of \"" + text + "\"", x.fault(), NONE);
            Checks.due("carryOut() of \"" + text + "\"", x.carryOut(), (Integer) row[1]);
            Checks.due("the pad is empty behind \"" + text + "\"", x.count(17), 0);
            Checks.due("one change by \"" + text + "\"", x.count(18), 1);
            int gap = text.startsWith("g9") ? 9 : 5;
            Checks.due("the gap behind \"" + text + "\"", x.count(14), gap);
        }
        QuarryBlends x = new QuarryBlends();
        Checks.putText(x, "c1:0-0/0-0$0;c2:0-0/0-0$0;c3:0-0/0-0$0;x1;x1;x1");
        Checks.due("carryOut() of one drop too many", x.carryOut(), 5);
        Checks.due("the first one is left", x.ofContract(0, 0), 1);
        x = new QuarryBlends();
        x.set(HOURS, 24);
        Checks.putText(x, "d30;d30;d30;d30;d30;d30;d30;d30;d30;d30;d30;d30;d30;d27;m");
        Checks.due("carryOut() beyond the last hour", x.carryOut(), 13);
        Checks.due("hours", x.count(0), 9360);
    }

    private static void carryOutAsMuchAsThePadHolds() {
        QuarryBlends x = new QuarryBlends();
        Checks.putText(x, "m;m;m;m;m;m;m;m;m;m;m;m;m;m;m;m;m;m;m;m;m;m;m;m;m;m;m;m;m;m;m;m;m;m;m;m;m;m;m;g1");
        Checks.due("length", x.count(17), 80);
        Checks.due("carryOut()", x.carryOut(), 40);
        Checks.due("the last one too", x.count(14), 1);
        Checks.putText(x, "f1*1+1;f1*1+1;f1*1+1;f1*1+1;f1*1+1;f1*1+1;f1*1+1;f1*1+1;f1*1+1;m");
        Checks.due("carryOut() of nine faces", x.carryOut(), 8);
    }

    private static void carryOutIsOneChange() {
        QuarryBlends x = new QuarryBlends();
        x.face(50, 5, 5);
        String before = Checks.stateOf(x);
        Checks.putText(x, "f60*1+1;g9;d3;f70*1+1");
        Checks.due("carryOut()", x.carryOut(), 4);
        Checks.due("changes", x.count(18), 2);
        Checks.putText(x, "g7");
        Checks.due("undo()", x.undo(), 1);
        Checks.due("all of them undone", Checks.stateOf(x), before);
        Checks.due("the pad is not", x.count(17), 2);
        Checks.due("fault()", x.fault(), NONE);
        Checks.due("carryOut() of what was put since", x.carryOut(), 1);
        Checks.due("GAP", x.count(14), 7);
    }

    private static void carryOutOfABadText() {
        QuarryBlends x = new QuarryBlends();
        Checks.putText(x, "g9;d1;");
        String before = Checks.stateOf(x);
        Checks.due("carryOut()", x.carryOut(), BAD_TEXT);
        Checks.due("nothing is carried out", Checks.stateOf(x), before);
        Checks.due("no change", x.count(18), 0);
        Checks.due("undo()", x.undo(), NOT_POSSIBLE);
        Checks.due("the pad stays", x.count(17), 6);
        Checks.putText(x, "m");
        Checks.due("carryOut() when it is mended", x.carryOut(), 3);
    }
}
