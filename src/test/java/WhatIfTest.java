/** Promises 14 to 16: then, bestGap, leastTrucks. */
public final class WhatIfTest {
    private static final int BAD_VALUE = Checks.BAD_VALUE, NOT_POSSIBLE = Checks.NOT_POSSIBLE, NONE = Checks.NONE;
    private static final int TRUCKS = Checks.TRUCKS, LOAD = Checks.LOAD, HOURS = Checks.HOURS;
    private static final int GAP = Checks.GAP, CRUSH = Checks.CRUSH, COST = Checks.COST;

    public static void main(String[] args) {
        wrongArguments();
        then();
        thenBelowNothing();
        bestGap();
        bestGapIgnoresCosts();
        leastTrucks();
        leastTrucksOnTheirWay();
        hoursHaveNoBound();
        nothingChanges();
        Checks.end();
    }

    private static void wrongArguments() {
        QuarryBlends x = new QuarryBlends();
        for (int days : new int[] {0, 31, -1, Integer.MIN_VALUE, Integer.MAX_VALUE}) {
            Checks.due("then(" + days + ", 0)", x.then(days, 0), BAD_VALUE);
            Checks.due("bestGap(" + days + ", 0)", x.bestGap(days, 0), BAD_VALUE);
            Checks.due("leastTrucks(" + days + ", 0)", x.leastTrucks(days, 0), BAD_VALUE);
            Checks.due("leastTrucks(" + days + ", 9)", x.leastTrucks(days, 9), BAD_VALUE);
        }
        for (int what : new int[] {-1, 2, Integer.MIN_VALUE, Integer.MAX_VALUE}) {
            Checks.due("then(1, " + what + ")", x.then(1, what), BAD_VALUE);
            Checks.due("bestGap(1, " + what + ")", x.bestGap(1, what), BAD_VALUE);
        }
        Checks.due("leastTrucks(1, -1)", x.leastTrucks(1, -1), BAD_VALUE);
        Checks.due("leastTrucks(1, lowest)", x.leastTrucks(1, Integer.MIN_VALUE), BAD_VALUE);
        Checks.due("leastTrucks(1, highest)", x.leastTrucks(1, Integer.MAX_VALUE), NONE);
        Checks.due("then(1, 0)", x.then(1, 0), 0);
        Checks.due("then(30, 1)", x.then(30, 1), 1000000);
        Checks.due("bestGap(1, 0)", x.bestGap(1, 0), 1);
        Checks.due("bestGap(30, 1)", x.bestGap(30, 1), 0);
        Checks.due("leastTrucks(1, 0)", x.leastTrucks(1, 0), 0);
    }

    /** Stone of 20 tonnes a day: one truck, a way of two hours, in days of two hours. */
    private static QuarryBlends slowQuarry() {
        QuarryBlends x = new QuarryBlends();
        x.set(TRUCKS, 1);
        x.set(HOURS, 2);
        x.face(1000, 5, 2);
        x.contract(30, 0, 100, 0, 100, 3);
        x.contract(30, 0, 100, 0, 100, 5);
        return x;
    }

    private static void then() {
        QuarryBlends x = slowQuarry();
        // loads come in the hours 2, 4, 6, that is in the second, the third and the fourth day
        int[] delivered = {0, 0, 1, 2, 2};
        int[] worth = {-4, -8, 90 - 12, 240 - 16, 240 - 20};
        for (int days = 1; days <= 5; days++) {
            Checks.due("then(" + days + ", 0)", x.then(days, 0), delivered[days - 1]);
            Checks.due("then(" + days + ", 1)", x.then(days, 1), 1000000 + worth[days - 1]);
        }
        x.pass(3);
        Checks.due("later: then(1, 0)", x.then(1, 0), 1);
        Checks.due("later: then(1, 1), these days alone", x.then(1, 1), 1000000 + 150 - 4);
        Checks.due("costs so far", x.count(10), 12);
    }

    private static void thenBelowNothing() {
        QuarryBlends x = new QuarryBlends();
        x.set(TRUCKS, 20);
        x.set(LOAD, 1);
        x.set(HOURS, 24);
        x.set(COST, 99);
        for (int face = 0; face < 8; face++) {
            x.face(9999, 9, 12);
        }
        Checks.due("then(30, 1)", x.then(30, 1), 1000000 - 30 * 24 * 20 * 99);
    }

    private static void bestGap() {
        QuarryBlends x = new QuarryBlends();
        x.set(TRUCKS, 5);
        x.set(HOURS, 2);
        x.set(CRUSH, 200);
        x.face(100, 5, 1);
        // of 100 tonnes, (10 - gap) * 5 are fine and gap * 5 are coarse
        x.contract(20, 0, 0, 100, 100, 10);
        Checks.due("coarse ones: bestGap(1, 0)", x.bestGap(1, 0), 4);
        Checks.due("coarse ones: bestGap(1, 1)", x.bestGap(1, 1), 200);
        x.contract(40, 100, 100, 0, 0, 6);
        Checks.due("the fine ones pay more: bestGap(1, 0)", x.bestGap(1, 0), 1);
        Checks.due("the fine ones pay more: bestGap(1, 1)", x.bestGap(1, 1), 240);
        x.contract(20, 0, 0, 100, 100, 6);
        Checks.due("coarse ones again: bestGap(1, 0)", x.bestGap(1, 0), 8);
        Checks.due("coarse ones again: bestGap(1, 1)", x.bestGap(1, 1), 320);
        x.contract(45, 0, 0, 100, 100, 99);
        Checks.due("the ones ahead take the coarse stone: bestGap(1, 0)", x.bestGap(1, 0), 8);
        x.drop(0);
        x.drop(1);
        Checks.due("the highest gap: bestGap(1, 0)", x.bestGap(1, 0), 9);
        Checks.due("the highest gap: bestGap(1, 1)", x.bestGap(1, 1), 4455);
        Checks.due("GAP stays", x.count(11 + GAP), 5);
    }

    private static void bestGapIgnoresCosts() {
        QuarryBlends x = slowQuarry();
        x.set(COST, 99);
        x.set(GAP, 9);
        Checks.due("bestGap(3, 0)", x.bestGap(3, 0), 1);
        Checks.due("bestGap(3, 1)", x.bestGap(3, 1), 90);
        x.pass(3);
        Checks.due("these days alone: bestGap(1, 1)", x.bestGap(1, 1), 150);
    }

    private static void leastTrucks() {
        QuarryBlends x = slowQuarry();
        Checks.due("leastTrucks(1, 1)", x.leastTrucks(1, 1), NONE);
        Checks.due("leastTrucks(2, 0)", x.leastTrucks(2, 0), 0);
        Checks.due("leastTrucks(2, 1)", x.leastTrucks(2, 1), 2);
        Checks.due("leastTrucks(2, 2)", x.leastTrucks(2, 2), 3);
        Checks.due("leastTrucks(2, 3)", x.leastTrucks(2, 3), NONE);
        Checks.due("leastTrucks(4, 2)", x.leastTrucks(4, 2), 1);
        Checks.due("TRUCKS stays", x.count(11), 1);
        x.contract(400, 0, 100, 0, 100, 1);
        x.drop(0);
        x.drop(0);
        x.set(CRUSH, 200);
        x.set(LOAD, 10);
        Checks.due("all twenty: leastTrucks(3, 1)", x.leastTrucks(3, 1), 20);
        x.set(LOAD, 9);
        Checks.due("twenty-one would do: leastTrucks(3, 1)", x.leastTrucks(3, 1), NONE);
    }

    private static void leastTrucksOnTheirWay() {
        QuarryBlends x = slowQuarry();
        x.set(TRUCKS, 4);
        x.pass(1);
        Checks.due("four are away", x.count(3), 4);
        Checks.due("leastTrucks(1, 0)", x.leastTrucks(1, 0), 4);
        Checks.due("leastTrucks(1, 2)", x.leastTrucks(1, 2), 4);
        x.set(TRUCKS, 20);
        Checks.due("the others do not matter", x.leastTrucks(1, 0), 4);
    }

    private static void hoursHaveNoBound() {
        QuarryBlends x = new QuarryBlends();
        x.set(HOURS, 24);
        for (int month = 0; month < 13; month++) {
            x.pass(30);
        }
        x.pass(26);
        x.set(HOURS, 15);
        x.pass(1);
        Checks.due("hours", x.count(0), 9999);
        x.face(500, 5, 3);
        x.contract(60, 0, 100, 0, 100, 2);
        Checks.due("pass(1)", x.pass(1), NOT_POSSIBLE);
        Checks.due("then(1, 0)", x.then(1, 0), 1);
        Checks.due("then(1, 1)", x.then(1, 1), 1000000 + 120 - 90);
        Checks.due("bestGap(30, 1)", x.bestGap(30, 1), 120);
        Checks.due("leastTrucks(1, 1)", x.leastTrucks(1, 1), 1);
    }

    private static void nothingChanges() {
        QuarryBlends x = slowQuarry();
        x.pass(1);
        x.set(COST, 7);
        Checks.putText(x, "d1");
        String before = Checks.stateOf(x);
        int changes = x.count(18);
        x.then(30, 0);
        x.then(30, 1);
        x.bestGap(30, 0);
        x.bestGap(30, 1);
        x.leastTrucks(30, 2);
        x.leastTrucks(2, 2);
        Checks.due("the state", Checks.stateOf(x), before);
        Checks.due("the changes", x.count(18), changes);
        Checks.due("the pad", x.count(17), 2);
    }
}
