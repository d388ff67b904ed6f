import java.util.function.ToIntFunction;

/** The promises 17 to 23, sentence by sentence: put, wipe, fault, carryOut, undo, save, restore. */
public final class SentencesOfPadAndHistoryTest {
    private static final int BAD_VALUE = Checks.BAD_VALUE, BAD_TEXT = Checks.BAD_TEXT, TOO_MANY = Checks.TOO_MANY;
    private static final int NO_SUCH = Checks.NO_SUCH, NOT_POSSIBLE = Checks.NOT_POSSIBLE, NONE = Checks.NONE;
    private static final int TRUCKS = Checks.TRUCKS, LOAD = Checks.LOAD, HOURS = Checks.HOURS;
    private static final int GAP = Checks.GAP, CRUSH = Checks.CRUSH, COST = Checks.COST;
    private static final String[] CHANGE_NAMES = {"set()", "face()", "contract()", "drop()", "mend()", "pass()", "carryOut()", "restore()"};

    public static void main(String[] args) {
        put();
        putOfWrongCharacters();
        putUpToTheLimit();
        wipe();
        fault();
        carryOut();
        carryOutIsOneChange();
        undo();
        undoOfSixStates();
        save();
        restore();
        restoreOfSlots();
        Sentences.end();
    }

    private static void due(String call, long got, long want) {
        Checks.due(call, got, want);
    }

    private static QuarryBlends withPad(String text) {
        QuarryBlends x = new QuarryBlends();
        Checks.putText(x, text);
        return x;
    }

    private static void put() {
        Sentences.under("Promise 17: put");
        Sentences.says("`int put(long characters)`: Appends characters to the pad.");
        QuarryBlends x = new QuarryBlends();
        x.put('m');
        due("one", x.count(17), 1);
        x.put(Checks.packed(";g7;m"));
        due("five more", x.count(17), 6);
        due("all of them", x.carryOut(), 3);
        due("in their order", x.count(14), 7);
        Sentences.says("They are given as a number: its lowest 8 bits are the last character, the next 8 bits the one before, and so on;");
        x = new QuarryBlends();
        due("f1234*5+", x.put(0x66313233342a352bL), 8);
        due("6", x.put(0x36L), 9);
        due("carryOut()", x.carryOut(), 1);
        due("its tonnes", x.ofFace(0, 0), 1234);
        due("its hardness", x.ofFace(0, 1), 5);
        due("its way", x.ofFace(0, 2), 6);
        for (int place = 0; place < 8; place++) {
            // a digit can stand behind d and at three more places, m nowhere there
            x = withPad("d");
            x.put(Checks.packed("12341234".substring(0, place) + "m"));
            due("m behind " + place + " digits", x.fault(), Math.min(5, place + 1));
        }
        Sentences.says("8 bits that are 0 mean that there are no more characters, and everything above them has to be 0, too.");
        for (int amount = 1; amount <= 8; amount++) {
            due(amount + " characters", new QuarryBlends().put(Checks.packed("ABCDEFGH".substring(0, amount))), amount);
        }
        for (int zero = 0; zero < 7; zero++) {
            for (int bit = 8 * zero + 8; bit < 64; bit++) {
                long below = Checks.packed("ABCDEFGH".substring(0, zero));
                due("0 at " + zero + " and bit " + bit, new QuarryBlends().put(below | 1L << bit), BAD_VALUE);
            }
        }
    }

    private static void putOfWrongCharacters() {
        Sentences.says("- `characters`: 1 to 8 characters");
        due("eight", new QuarryBlends().put(Checks.packed("!!!!~~~~")), 8);
        due("one", new QuarryBlends().put(Checks.packed("!")), 1);
        due("none", new QuarryBlends().put(0), BAD_VALUE);
        Sentences.says("BAD_VALUE if there is no character, a code is not 33 to 126, or a bit above 8 bits that are 0 is not 0;");
        for (int place = 0; place < 8; place++) {
            long others = 0x4141414141414141L & ~(255L << 8 * place);
            for (long code = 1; code < 256; code++) {
                boolean good = code >= 33 && code <= 126;
                due("code " + code + " at " + place, new QuarryBlends().put(others | code << 8 * place), good ? 8 : BAD_VALUE);
            }
            long most = place == 7 ? 0 : 0x4141414141414141L << 8 * (place + 1);
            due("0 at " + place + " below others", new QuarryBlends().put(most), BAD_VALUE);
        }
        for (long wrong : new long[] {-1, Long.MIN_VALUE, Long.MAX_VALUE, 1L << 32 | 'm' << 16, 0x100L, 0x410041L, 0x4100000000000041L}) {
            due("put(" + Long.toHexString(wrong) + ")", new QuarryBlends().put(wrong), BAD_VALUE);
        }
        QuarryBlends x = withPad("g1");
        x.put(' ');
        x.put(Checks.packed(";") << 8);
        due("a wrong one appends nothing", x.count(17), 2);
        due("the text is as it was", x.fault(), NONE);
    }

    private static void putUpToTheLimit() {
        Sentences.says("Returns the length of the pad then;");
        QuarryBlends x = new QuarryBlends();
        int length = 0;
        for (int amount = 1; amount <= 8; amount++) {
            length += amount;
            due("put of " + amount, x.put(Checks.packed("ABCDEFGH".substring(0, amount))), length);
            due("the length", x.count(17), length);
        }
        Sentences.says("TOO_MANY if the pad would be longer than 80.");
        for (int amount = 1; amount <= 8; amount++) {
            String characters = ";m;m;m;m".substring(0, amount);
            x = withPad("m;".repeat(40).substring(0, 80 - amount));
            due(amount + " to 80", x.put(Checks.packed(characters)), 80);
            x = withPad(";m".repeat(41).substring(0, 81 - amount));
            due(amount + " to 81", x.put(Checks.packed(characters)), TOO_MANY);
            due("nothing of them is there", x.count(17), 81 - amount);
            due(amount + " wrong ones to 81", x.put(Checks.packed(characters) << 8), BAD_VALUE);
            x.put(Checks.packed(characters.substring(1)));
            due("one less to 80", x.count(17), 80);
        }
        Sentences.whole();
    }

    private static void wipe() {
        Sentences.under("Promise 18: wipe");
        Sentences.says("`int wipe()`: Empties the pad, and returns the length that it had.");
        QuarryBlends x = new QuarryBlends();
        due("an empty one", x.wipe(), 0);
        for (int length : new int[] {1, 8, 79, 80}) {
            Checks.putText(x, "~".repeat(length));
            due("of " + length, x.wipe(), length);
            due("its length then", x.count(17), 0);
            due("its fault then", x.fault(), 0);
            due("once more", x.wipe(), 0);
        }
        Checks.putText(x, "d12");
        x.wipe();
        Checks.putText(x, "d");
        due("what was wiped is not read", x.fault(), 1);
        due("no change", x.count(18), 0);
        Sentences.whole();
    }

    private static void fault() {
        Sentences.under("Promise 19: fault");
        Sentences.says("`int fault()`: Returns the fault of the pad, NONE if there is none.");
        due("of an empty one", new QuarryBlends().fault(), 0);
        due("of m", withPad("m").fault(), NONE);
        due("of mm", withPad("mm").fault(), 1);
        due("of m;", withPad("m;").fault(), 2);
        QuarryBlends x = withPad("c1:2-3/4-5$6;f");
        due("once", x.fault(), 14);
        due("twice", x.fault(), 14);
        Checks.putText(x, "7*8+9");
        due("of what was put since", x.fault(), NONE);
        Checks.putText(x, ";");
        due("of what was put since", x.fault(), 20);
        due("the pad is as it was", x.count(17), 20);
        due("orders that would return errors are no faults", withPad("d0;x9;c0:0-0/0-0$0;f0*1+0").fault(), NONE);
        x = withPad("m;".repeat(39) + "mm");
        due("the last index", x.fault(), 79);
        x = withPad("m;".repeat(40));
        due("the length of a full one", x.fault(), 80);
        Sentences.whole();
    }

    private static void carriesOut(QuarryBlends x, String text, int orders) {
        Checks.putText(x, text);
        due("carryOut() of \"" + text + "\"", x.carryOut(), orders);
        due("the pad behind it", x.count(17), 0);
        due("the gap behind it", x.count(14), 1);
    }

    private static void carryOut() {
        Sentences.under("Promise 20: carryOut");
        Sentences.says("`int carryOut()`: Carries the orders of the pad out, one after the other,");
        QuarryBlends x = withPad("f300*4+2;c20:10-90/5-80$7;c500:1-2/3-4$5;x1;g8;d2;m");
        due("carryOut()", x.carryOut(), 7);
        QuarryBlends y = new QuarryBlends();
        y.face(300, 4, 2);
        y.contract(20, 10, 90, 5, 80, 7);
        y.contract(500, 1, 2, 3, 4, 5);
        y.drop(1);
        y.set(GAP, 8);
        y.pass(2);
        y.mend();
        Checks.due("as by calls", Checks.stateOf(x), Checks.stateOf(y));
        x = withPad("g2;g3;g4");
        x.carryOut();
        due("the last one counts", x.count(14), 4);
        Sentences.says("up to the first one that returns an error,");
        for (String wrong : new String[] {"f0*1+1", "f1*1+0", "f1*1+13", "c0:0-0/0-0$0", "c501:0-0/0-0$0", "c1:1-0/0-0$0", "c1:0-101/0-0$0",
            "c1:0-0/1-0$0", "c1:0-0/0-101$0", "c1:0-0/0-0$100", "d0", "d31", "x0", "x9999"}) {
            carriesOut(new QuarryBlends(), "g1;" + wrong, 1);
            carriesOut(new QuarryBlends(), "g1;" + wrong + ";g2", 1);
            carriesOut(new QuarryBlends(), "m;g1;" + wrong + ";m;" + wrong, 2);
        }
        carriesOut(new QuarryBlends(), "g1;" + "f1*1+1;".repeat(9) + "g9", 9);
        x = new QuarryBlends();
        for (int contract = 0; contract < 11; contract++) {
            x.contract(1, 60, 100, 60, 100, 0);
        }
        carriesOut(x, "g1;c1:0-0/0-0$0;c1:0-0/0-0$0;x0;g9", 2);
        due("twelve contracts", x.count(2), 12);
        x = new QuarryBlends();
        x.set(HOURS, 24);
        for (int month = 0; month < 13; month++) {
            x.pass(30);
        }
        carriesOut(x, "g1;d26;d1;g9", 2);
        due("hours", x.count(0), 9984);
        Sentences.says("and empties the pad.");
        x = withPad("m;".repeat(39) + "m");
        due("carryOut()", x.carryOut(), 40);
        due("the length", x.count(17), 0);
        due("the fault", x.fault(), 0);
        due("nothing is carried out twice", x.carryOut(), BAD_TEXT);
        due("there is room again", x.put(Checks.packed("g9")), 2);
        due("for another one", x.carryOut(), 1);
    }

    private static void carryOutIsOneChange() {
        Sentences.says("This is a change (one, with all of them; also if none is carried out).");
        QuarryBlends x = new QuarryBlends();
        x.face(50, 5, 5);
        String before = Checks.stateOf(x);
        Checks.putText(x, "f60*1+1;g9;d3;f70*1+1");
        x.carryOut();
        due("changes by four", x.count(18), 2);
        String behind = Checks.stateOf(x);
        Checks.putText(x, "x0;g3");
        x.carryOut();
        due("changes by none", x.count(18), 3);
        due("undo() of none", x.undo(), 2);
        Checks.due("the state ahead of none", Checks.stateOf(x), behind);
        due("undo() of four", x.undo(), 1);
        Checks.due("the state ahead of four", Checks.stateOf(x), before);
        Sentences.says("Returns how many orders were carried out;");
        due("none", withPad("d0").carryOut(), 0);
        due("one", withPad("m").carryOut(), 1);
        due("forty", withPad("m" + ";m".repeat(39)).carryOut(), 40);
        due("an error is not counted", withPad("m;m;x0").carryOut(), 2);
        Sentences.says("BAD_TEXT if the pad has a fault (then it stays).");
        for (String wrong : new String[] {"", ";", "g9;", "g9;d", "g9;m0", "g9;f1*0+1", "g9;x10000"}) {
            x = withPad(wrong);
            int fault = x.fault();
            due("carryOut() of \"" + wrong + "\"", x.carryOut(), BAD_TEXT);
            due("its length", x.count(17), wrong.length());
            due("its fault", x.fault(), fault);
            due("no order is carried out", x.count(14), 5);
            due("no change", x.count(18), 0);
        }
        x = withPad("g9;d1;");
        x.carryOut();
        Checks.putText(x, "m");
        due("carryOut() when it is mended", x.carryOut(), 3);
        Sentences.whole();
    }

    private static QuarryBlends busy() {
        QuarryBlends x = new QuarryBlends();
        makeBusy(x);
        return x;
    }

    /** Begins everything: trucks are away, stone waits, one contract of two is delivered. */
    private static void makeBusy(QuarryBlends x) {
        x.set(TRUCKS, 6);
        x.set(CRUSH, 9);
        x.face(300, 3, 3);
        x.face(280, 8, 5);
        x.contract(20, 0, 100, 0, 100, 6);
        x.contract(300, 5, 95, 5, 95, 7);
        x.pass(2);
    }

    /** A change of each kind, to a quarry in whose slot 1 something else is saved. */
    private static int change(QuarryBlends x, int which) {
        switch (which) {
            case 0: return x.set(LOAD, 7);
            case 1: return x.face(40, 6, 2);
            case 2: return x.contract(20, 0, 50, 0, 50, 8);
            case 3: return x.drop(0);
            case 4: return x.mend();
            case 5: return x.pass(4);
            case 6: Checks.putText(x, "f9*9+9;g2;x0;d1;m;c1:2-3/4-5$6"); return x.carryOut();
            default: return x.restore(1);
        }
    }

    private static void undo() {
        Sentences.under("Promise 21: undo");
        Sentences.says("`int undo()`: Undoes the latest change: everything except the pad, the slots and the history is as it was before it.");
        for (int which = 0; which < CHANGE_NAMES.length; which++) {
            QuarryBlends x = new QuarryBlends();
            x.save(1);
            makeBusy(x);
            String before = Checks.stateOf(x);
            due(CHANGE_NAMES[which] + " is no error", change(x, which) >= 0 ? 1 : 0, 1);
            due(CHANGE_NAMES[which] + " makes a difference", Checks.stateOf(x).equals(before) ? 1 : 0, 0);
            x.undo();
            Checks.due("the state behind undo() of " + CHANGE_NAMES[which], Checks.stateOf(x), before);
        }
        QuarryBlends x = busy();
        x.save(0);
        Checks.putText(x, "g3");
        x.undo();
        due("the pad stays", x.count(17), 2);
        due("hours", x.count(0), 0);
        x.restore(0);
        due("the slot stays", x.count(0), 16);
        x = new QuarryBlends();
        x.set(HOURS, 1);
        x.face(60, 5, 1);
        x.pass(2);
        x.set(TRUCKS, 1);
        x.undo();
        due("a truck that comes again by undo() was sent", x.truck(2, 3), 1);
        x.undo();
        x.undo();
        x.face(30, 5, 1);
        due("nothing was taken from another face 0", x.ofFace(0, 4), 0);
    }

    private static void undoOfSixStates() {
        Sentences.says("A history of at most 6 states is kept:");
        QuarryBlends x = new QuarryBlends();
        for (int change = 1; change <= 9; change++) {
            x.set(GAP, change);
            due("changes", x.count(18), Math.min(6, change));
        }
        for (int back = 1; back <= 6; back++) {
            due("undo()", x.undo(), 6 - back);
            due("GAP", x.count(14), 9 - back);
        }
        due("a seventh undo()", x.undo(), NOT_POSSIBLE);
        Sentences.says("each method that is a change, and returns no error, records the state before it");
        for (int which = 0; which < CHANGE_NAMES.length; which++) {
            x = new QuarryBlends();
            x.contract(1, 0, 0, 0, 0, 0);
            x.save(1);
            change(x, which);
            due("changes behind " + CHANGE_NAMES[which], x.count(18), 2);
        }
        for (int gap = 1; gap <= 8; gap++) {
            x.set(GAP, gap);
        }
        for (int round = 0; round < 8; round++) {
            x.set(GAP, 0);
            x.face(0, 0, 0);
            x.contract(0, 0, 0, 0, 0, 0);
            x.drop(99);
            x.pass(0);
            x.wipe();
            x.carryOut();
            x.restore(2);
            x.save(2);
        }
        due("errors drop no state", x.count(18), 6);
        for (int back = 1; back <= 6; back++) {
            x.undo();
            due("nor change one", x.count(14), 8 - back);
            x.set(GAP, 10);
        }
        Sentences.says("(also if nothing is different then);");
        x = new QuarryBlends();
        x.set(GAP, 5);
        x.mend();
        Checks.putText(x, "x0");
        x.carryOut();
        x.save(0);
        x.restore(0);
        due("four changes", x.count(18), 4);
        Sentences.says("when one more is recorded, the oldest one is dropped.");
        x = new QuarryBlends();
        for (int trucks = 1; trucks <= 20; trucks++) {
            x.set(TRUCKS, trucks);
        }
        x.undo();
        x.undo();
        x.set(TRUCKS, 0);
        x.set(LOAD, 1);
        x.set(LOAD, 2);
        int[][] states = {{0, 1}, {0, 20}, {18, 20}, {17, 20}, {16, 20}, {15, 20}};
        for (int[] state : states) {
            x.undo();
            due("TRUCKS", x.count(11), state[0]);
            due("LOAD", x.count(12), state[1]);
        }
        due("no more", x.undo(), NOT_POSSIBLE);
        Sentences.says("An order of a text records nothing by itself.");
        x = withPad("g1;g2;g3;g4;g5;g6;g7;g8");
        x.carryOut();
        due("one change", x.count(18), 1);
        x.undo();
        due("GAP", x.count(14), 5);
        Sentences.says("Returns how many changes can be undone then;");
        x.mend();
        x.mend();
        due("undo() of the second one", x.undo(), 1);
        due("undo() of the first one", x.undo(), 0);
        Sentences.says("NOT_POSSIBLE if there is none.");
        due("undo()", x.undo(), NOT_POSSIBLE);
        due("undo() of a new one", new QuarryBlends().undo(), NOT_POSSIBLE);
        Sentences.whole();
    }

    private static void save() {
        Sentences.under("Promise 22: save");
        Sentences.says("`int save(int slot)`: Saves everything except the pad, the history and the slots in a slot,");
        QuarryBlends x = busy();
        String saved = Checks.stateOf(x);
        x.save(0);
        Checks.due("the state stays", Checks.stateOf(x), saved);
        Checks.putText(x, "m;m");
        x.mend();
        x.set(TRUCKS, 20);
        x.set(COST, 50);
        x.face(9, 9, 9);
        x.drop(0);
        x.pass(9);
        x.save(1);
        x.restore(0);
        Checks.due("the state saved", Checks.stateOf(x), saved);
        due("the pad is none of it", x.count(17), 3);
        due("the history is none of it", x.count(18), 6);
        due("the other slot is none of it", x.restore(1), 3);
        Sentences.says("and overwrites what was saved there.");
        x = new QuarryBlends();
        for (int gap = 1; gap <= 9; gap++) {
            x.set(GAP, gap);
            x.save(1);
        }
        x.set(GAP, 4);
        x.restore(1);
        due("what was saved last", x.count(14), 9);
        Sentences.says("- `slot`: 0 or 1");
        x = new QuarryBlends();
        due("save(0)", x.save(0), 0);
        due("save(1)", x.save(1), 0);
        due("no change", x.count(18), 0);
        Sentences.says("Returns how many faces there are;");
        for (int faces = 1; faces <= 8; faces++) {
            x.face(1, 1, 1);
            due("save(0)", x.save(0), faces);
        }
        Sentences.says("BAD_VALUE if there is no such slot.");
        for (int slot : Checks.outside(0, 1)) {
            due("save(" + slot + ")", x.save(slot), BAD_VALUE);
        }
        Sentences.whole();
    }

    private static void restore() {
        Sentences.under("Promise 23: restore");
        Sentences.says("`int restore(int slot)`: Restores what was saved last in a slot,");
        QuarryBlends x = busy();
        x.save(1);
        x.pass(1);
        String saved = Checks.stateOf(x);
        x.save(1);
        x.face(10, 1, 1);
        x.drop(0);
        x.set(TRUCKS, 20);
        x.pass(20);
        Checks.putText(x, "g3");
        x.restore(1);
        Checks.due("the state", Checks.stateOf(x), saved);
        due("the pad stays", x.count(17), 2);
        x.face(10, 1, 1);
        due("nothing was taken from another face 2", x.ofFace(2, 4), 0);
        x.undo();
        x.pass(3);
        QuarryBlends y = busy();
        y.pass(4);
        Checks.due("it goes on as if nothing had been", Checks.stateOf(x), Checks.stateOf(y));
        Sentences.says("which keeps it.");
        x = busy();
        x.save(0);
        saved = Checks.stateOf(x);
        for (int round = 0; round < 3; round++) {
            x.pass(2);
            x.face(1, 1, 1);
            x.restore(0);
            due("hours", x.count(0), 16);
        }
        Checks.due("the state", Checks.stateOf(x), saved);
        Sentences.says("This is a change.");
        x = new QuarryBlends();
        x.save(0);
        x.face(1, 1, 1);
        x.restore(0);
        due("changes", x.count(18), 2);
        due("faces", x.count(1), 0);
        due("undo()", x.undo(), 1);
        due("faces behind it", x.count(1), 1);
    }

    private static void restoreOfSlots() {
        Sentences.says("- `slot`: 0 or 1");
        QuarryBlends x = new QuarryBlends();
        x.set(GAP, 1);
        x.save(0);
        x.set(GAP, 2);
        x.save(1);
        x.restore(0);
        due("slot 0", x.count(14), 1);
        x.restore(1);
        due("slot 1", x.count(14), 2);
        Sentences.says("Returns how many faces there are then;");
        x = new QuarryBlends();
        x.save(0);
        for (int face = 0; face < 8; face++) {
            x.face(1, 1, 1);
        }
        x.save(1);
        due("none", x.restore(0), 0);
        due("eight", x.restore(1), 8);
        Sentences.says("BAD_VALUE if there is no such slot;");
        for (int slot : Checks.outside(0, 1)) {
            due("restore(" + slot + ")", x.restore(slot), BAD_VALUE);
            due("restore(" + slot + ") of a new one", new QuarryBlends().restore(slot), BAD_VALUE);
        }
        Sentences.says("NOT_POSSIBLE if nothing was saved in it.");
        x = busy();
        String before = Checks.stateOf(x);
        due("restore(0)", x.restore(0), NOT_POSSIBLE);
        due("restore(1)", x.restore(1), NOT_POSSIBLE);
        x.save(1);
        due("restore(0), slot 1 is saved", x.restore(0), NOT_POSSIBLE);
        Checks.due("the state", Checks.stateOf(x), before);
        due("no change of it", x.count(18), 6);
        x.undo();
        due("restore(0) behind undo()", x.restore(0), NOT_POSSIBLE);
        due("restore(1) behind undo()", x.restore(1), 2);
        Checks.due("the state", Checks.stateOf(x), before);
        Sentences.whole();
    }
}
