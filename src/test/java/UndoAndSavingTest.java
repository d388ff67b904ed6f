/** Promises 21 to 23: undo, save, restore. */
public final class UndoAndSavingTest {
    private static final int BAD_VALUE = Checks.BAD_VALUE, NOT_POSSIBLE = Checks.NOT_POSSIBLE;
    private static final int TRUCKS = Checks.TRUCKS, HOURS = Checks.HOURS, GAP = Checks.GAP;

    public static void main(String[] args) {
        undoOfEachChange();
        undoKeepsSixStates();
        undoAfterErrors();
        undoOfWhatMadeNoDifference();
        undoThenChange();
        undoLeavesPadAndSlots();
        save();
        restore();
        restoreIsAChange();
        restoreKeepsTheSlot();
        slotsArePartedFromEachOther();
        Checks.end();
    }

    private static void change(QuarryBlends x, int which) {
        switch (which) {
            case 0: x.set(TRUCKS, 7); break;
            case 1: x.face(40, 6, 2); break;
            case 2: x.contract(20, 0, 50, 0, 50, 8); break;
            case 3: x.drop(0); break;
            case 4: x.mend(); break;
            case 5: x.pass(4); break;
            case 6: Checks.putText(x, "d1;g2;x0"); x.carryOut(); break;
            default: x.restore(1); break;
        }
    }

    private static void undoOfEachChange() {
        for (int which = 0; which <= 7; which++) {
            QuarryBlends x = new QuarryBlends();
            x.face(3, 3, 3);
            x.save(1);
            x.face(400, 7, 3);
            x.contract(300, 0, 100, 0, 100, 4);
            x.contract(10, 0, 100, 0, 100, 4);
            x.pass(2);
            String before = Checks.stateOf(x);
            int changes = x.count(18);
            change(x, which);
            Checks.due("change " + which + " is one", x.count(18), changes + 1);
            if (Checks.stateOf(x).equals(before)) {
                Checks.due("change " + which + " changes nothing", 0, 1);
            }
            Checks.due("undo() of change " + which, x.undo(), changes);
            Checks.due("the state behind it", Checks.stateOf(x), before);
        }
    }

    private static void undoKeepsSixStates() {
        QuarryBlends x = new QuarryBlends();
        for (int change = 0; change < 9; change++) {
            x.set(GAP, 1 + change);
            Checks.due("changes", x.count(18), Math.min(6, change + 1));
        }
        for (int back = 1; back <= 6; back++) {
            Checks.due("undo() number " + back, x.undo(), 6 - back);
            Checks.due("GAP behind it", x.count(14), 9 - back);
        }
        Checks.due("undo() number 7", x.undo(), NOT_POSSIBLE);
        Checks.due("GAP", x.count(14), 3);
    }

    private static void undoAfterErrors() {
        QuarryBlends x = new QuarryBlends();
        for (int gap = 1; gap <= 8; gap++) {
            x.set(GAP, gap);
        }
        for (int i = 0; i < 10; i++) {
            x.set(GAP, 0);
            x.face(0, 0, 0);
            x.drop(0);
            x.carryOut();
            x.restore(0);
        }
        for (int back = 1; back <= 6; back++) {
            Checks.due("undo()", x.undo(), 6 - back);
            Checks.due("GAP", x.count(14), 8 - back);
            x.pass(0);
        }
    }

    private static void undoOfWhatMadeNoDifference() {
        QuarryBlends x = new QuarryBlends();
        x.set(GAP, 5);
        x.mend();
        Checks.putText(x, "x0");
        x.carryOut();
        Checks.due("three changes", x.count(18), 3);
        Checks.due("undo()", x.undo(), 2);
        Checks.due("undo()", x.undo(), 1);
        Checks.due("undo()", x.undo(), 0);
        Checks.due("undo()", x.undo(), NOT_POSSIBLE);
    }

    private static void undoThenChange() {
        QuarryBlends x = new QuarryBlends();
        for (int gap = 1; gap <= 9; gap++) {
            x.set(GAP, gap);
        }
        x.undo();
        x.undo();
        x.set(TRUCKS, 1);
        x.set(TRUCKS, 2);
        x.set(TRUCKS, 3);
        Checks.due("changes", x.count(18), 6);
        int[][] due = {{7, 2}, {7, 1}, {7, 3}, {6, 3}, {5, 3}, {4, 3}};
        for (int[] settings : due) {
            x.undo();
            Checks.due("GAP", x.count(14), settings[0]);
            Checks.due("TRUCKS", x.count(11), settings[1]);
        }
        Checks.due("undo()", x.undo(), NOT_POSSIBLE);
    }

    private static void undoLeavesPadAndSlots() {
        QuarryBlends x = new QuarryBlends();
        x.face(1, 1, 1);
        x.save(0);
        Checks.putText(x, "m");
        Checks.due("undo()", x.undo(), 0);
        Checks.due("the pad", x.count(17), 1);
        Checks.due("faces", x.count(1), 0);
        Checks.due("restore(0)", x.restore(0), 1);
    }

    private static void save() {
        QuarryBlends x = new QuarryBlends();
        for (int slot : new int[] {-1, 2, Integer.MIN_VALUE, Integer.MAX_VALUE}) {
            Checks.due("save(" + slot + ")", x.save(slot), BAD_VALUE);
            Checks.due("restore(" + slot + ")", x.restore(slot), BAD_VALUE);
        }
        Checks.due("save(0)", x.save(0), 0);
        x.face(1, 1, 1);
        x.face(1, 1, 1);
        Checks.due("save(1)", x.save(1), 2);
        Checks.due("no change", x.count(18), 2);
        Checks.due("save(0) over it", x.save(0), 2);
        x.face(1, 1, 1);
        Checks.due("restore(0)", x.restore(0), 2);
    }

    private static void restore() {
        QuarryBlends x = new QuarryBlends();
        x.set(HOURS, 5);
        x.face(400, 7, 3);
        x.contract(300, 0, 100, 0, 100, 4);
        x.contract(10, 0, 100, 0, 100, 4);
        x.pass(2);
        String saved = Checks.stateOf(x);
        x.save(1);
        Checks.due("restore(0), nothing there", x.restore(0), NOT_POSSIBLE);
        x.pass(20);
        x.face(10, 1, 1);
        x.drop(0);
        x.set(TRUCKS, 20);
        Checks.putText(x, "g3");
        Checks.due("restore(1)", x.restore(1), 1);
        Checks.due("the state", Checks.stateOf(x), saved);
        Checks.due("the pad stays", x.count(17), 2);
        x.pass(1);
        QuarryBlends y = new QuarryBlends();
        y.set(HOURS, 5);
        y.face(400, 7, 3);
        y.contract(300, 0, 100, 0, 100, 4);
        y.contract(10, 0, 100, 0, 100, 4);
        y.pass(3);
        Checks.due("it goes on as if nothing had been", Checks.stateOf(x), Checks.stateOf(y));
    }

    private static void restoreIsAChange() {
        QuarryBlends x = new QuarryBlends();
        x.save(0);
        Checks.due("restore(0)", x.restore(0), 0);
        Checks.due("changes", x.count(18), 1);
        x.face(1, 1, 1);
        x.restore(0);
        Checks.due("faces", x.count(1), 0);
        Checks.due("undo()", x.undo(), 2);
        Checks.due("faces", x.count(1), 1);
    }

    private static void restoreKeepsTheSlot() {
        QuarryBlends x = new QuarryBlends();
        x.set(GAP, 8);
        x.save(0);
        for (int i = 0; i < 3; i++) {
            x.set(GAP, 1);
            Checks.due("restore(0)", x.restore(0), 0);
            Checks.due("GAP", x.count(14), 8);
            x.face(5, 5, 5);
        }
        Checks.due("restore(0)", x.restore(0), 0);
    }

    private static void slotsArePartedFromEachOther() {
        QuarryBlends x = new QuarryBlends();
        x.set(GAP, 1);
        x.save(0);
        x.set(GAP, 2);
        x.save(1);
        x.set(GAP, 3);
        x.restore(0);
        Checks.due("slot 0", x.count(14), 1);
        x.restore(1);
        Checks.due("slot 1", x.count(14), 2);
        Checks.due("another object's slot", new QuarryBlends().restore(0), NOT_POSSIBLE);
    }
}
