/** Promises 8 to 13: ofFace, truck, ofContract, bin, waiting, count. */
public final class WhatThereIsTest {
    private static final int NO_SUCH = Checks.NO_SUCH, BAD_VALUE = Checks.BAD_VALUE, NONE = Checks.NONE;
    private static final int TRUCKS = Checks.TRUCKS, LOAD = Checks.LOAD, HOURS = Checks.HOURS, CRUSH = Checks.CRUSH;

    public static void main(String[] args) {
        ofFace();
        truck();
        ofContractTerms();
        ofContractReasonsAndBlends();
        ofContractFineReasonGoesFirst();
        ofContractRounding();
        bin();
        waiting();
        count();
        Checks.end();
    }

    private static QuarryBlends withTrucksAway() {
        QuarryBlends x = new QuarryBlends();
        x.set(HOURS, 1);
        x.set(TRUCKS, 4);
        x.set(LOAD, 30);
        x.face(70, 4, 3);
        x.face(65, 6, 5);
        x.face(9, 2, 1);
        x.pass(2);
        return x;
    }

    private static void ofFace() {
        QuarryBlends x = withTrucksAway();
        int[][] due = {{10, 4, 3, 2, 60}, {5, 6, 5, 2, 60}, {9, 2, 1, 0, 0}};
        for (int face = 0; face < due.length; face++) {
            for (int what = 0; what < 5; what++) {
                Checks.due("ofFace(" + face + ", " + what + ")", x.ofFace(face, what), due[face][what]);
            }
        }
        for (int face : new int[] {-1, 3, 8, Integer.MIN_VALUE, Integer.MAX_VALUE}) {
            Checks.due("ofFace(" + face + ", 0)", x.ofFace(face, 0), NO_SUCH);
            Checks.due("ofFace(" + face + ", 9)", x.ofFace(face, 9), NO_SUCH);
        }
        for (int what : new int[] {-1, 5, Integer.MIN_VALUE, Integer.MAX_VALUE}) {
            Checks.due("ofFace(0, " + what + ")", x.ofFace(0, what), BAD_VALUE);
        }
        x.pass(2);
        Checks.due("the rest of face 0 is away", x.ofFace(0, 0), 0);
        Checks.due("all of it taken", x.ofFace(0, 4), 70);
        Checks.due("one truck from there", x.ofFace(0, 3), 1);
    }

    private static void truck() {
        QuarryBlends x = withTrucksAway();
        int[][] due = {{0, 30, 3, 1}, {1, 30, 5, 1}, {0, 30, 3, 1}, {1, 30, 5, 1}};
        for (int truck = 0; truck < due.length; truck++) {
            for (int what = 0; what < 4; what++) {
                Checks.due("truck(" + truck + ", " + what + ")", x.truck(truck, what), due[truck][what]);
            }
        }
        for (int truck : new int[] {-1, 4, 20, Integer.MIN_VALUE, Integer.MAX_VALUE}) {
            Checks.due("truck(" + truck + ", 0)", x.truck(truck, 0), NO_SUCH);
            Checks.due("truck(" + truck + ", 9)", x.truck(truck, 9), NO_SUCH);
        }
        for (int what : new int[] {-1, 4, Integer.MIN_VALUE, Integer.MAX_VALUE}) {
            Checks.due("truck(0, " + what + ")", x.truck(0, what), BAD_VALUE);
        }
        x.set(TRUCKS, 20);
        Checks.due("truck(19, 3)", x.truck(19, 3), 0);
        Checks.due("truck(20, 3)", x.truck(20, 3), NO_SUCH);
        x.pass(30);
        for (int what = 0; what < 3; what++) {
            Checks.due("a truck that waits: truck(0, " + what + ")", x.truck(0, what), NONE);
        }
        Checks.due("a truck that waits, of a wrong thing", x.truck(0, 4), BAD_VALUE);
        Checks.due("a truck that waits was sent", x.truck(0, 3), 1);
        Checks.due("the one for the 10 tonnes", x.truck(4, 3), 1);
        x.set(TRUCKS, 0);
        Checks.due("no truck", x.truck(0, 3), NO_SUCH);
    }

    private static void ofContractTerms() {
        QuarryBlends x = new QuarryBlends();
        x.contract(500, 1, 2, 3, 4, 99);
        x.contract(7, 5, 6, 7, 8, 9);
        int[][] due = {{500, 1, 2, 3, 4, 99, 1, NONE, NONE}, {7, 5, 6, 7, 8, 9, 1, NONE, NONE}};
        for (int contract = 0; contract < due.length; contract++) {
            for (int what = 0; what < 9; what++) {
                Checks.due("ofContract(" + contract + ", " + what + ")", x.ofContract(contract, what), due[contract][what]);
            }
        }
        for (int contract : new int[] {-1, 2, 12, Integer.MIN_VALUE, Integer.MAX_VALUE}) {
            Checks.due("ofContract(" + contract + ", 0)", x.ofContract(contract, 0), NO_SUCH);
            Checks.due("ofContract(" + contract + ", 9)", x.ofContract(contract, 9), NO_SUCH);
        }
        for (int what : new int[] {-1, 9, Integer.MIN_VALUE, Integer.MAX_VALUE}) {
            Checks.due("ofContract(0, " + what + ")", x.ofContract(0, what), BAD_VALUE);
        }
    }

    /** Asks for the reason, the fine and the coarse tonnes of a contract, and drops it. */
    private static void blend(QuarryBlends x, int[] terms, int reason, int fine, int coarse) {
        int number = x.contract(terms[0], terms[1], terms[2], terms[3], terms[4], 1);
        String name = java.util.Arrays.toString(terms);
        Checks.due("reason against " + name, x.ofContract(number, 6), reason);
        Checks.due("fine of " + name, x.ofContract(number, 7), fine);
        Checks.due("coarse of " + name, x.ofContract(number, 8), coarse);
        x.drop(number);
    }

    private static void ofContractReasonsAndBlends() {
        QuarryBlends x = new QuarryBlends();
        Checks.crushAtOnce(x, 100, 1, 1);
        Checks.crushAtOnce(x, 100, 9, 9);
        // the bins have 82, 36 and 82 tonnes
        blend(x, new int[] {100, 0, 100, 0, 100}, 0, 0, 82);
        blend(x, new int[] {100, 20, 60, 5, 30}, 0, 34, 30);
        blend(x, new int[] {100, 20, 60, 5, 90}, 0, 20, 80);
        blend(x, new int[] {200, 0, 100, 0, 100}, 0, 82, 82);
        blend(x, new int[] {201, 0, 100, 0, 100}, 1, NONE, NONE);
        blend(x, new int[] {500, 60, 100, 60, 100}, 1, NONE, NONE);
        blend(x, new int[] {100, 51, 100, 50, 100}, 2, NONE, NONE);
        blend(x, new int[] {100, 50, 100, 50, 100}, 0, 50, 50);
        blend(x, new int[] {100, 83, 100, 18, 100}, 2, NONE, NONE);
        blend(x, new int[] {100, 83, 100, 0, 100}, 3, NONE, NONE);
        blend(x, new int[] {100, 82, 100, 0, 100}, 0, 82, 18);
        blend(x, new int[] {100, 0, 100, 83, 100}, 4, NONE, NONE);
        blend(x, new int[] {100, 0, 100, 82, 100}, 0, 0, 82);
        blend(x, new int[] {100, 0, 10, 0, 10}, 5, NONE, NONE);
        blend(x, new int[] {100, 0, 32, 0, 32}, 0, 32, 32);
        blend(x, new int[] {100, 0, 31, 0, 32}, 5, NONE, NONE);
        blend(x, new int[] {100, 0, 32, 0, 31}, 5, NONE, NONE);
        blend(x, new int[] {160, 0, 20, 0, 100}, 5, NONE, NONE);
        blend(x, new int[] {200, 0, 40, 0, 100}, 5, NONE, NONE);
        blend(x, new int[] {199, 0, 41, 0, 42}, 0, 81, 82);
    }

    private static void ofContractFineReasonGoesFirst() {
        QuarryBlends x = new QuarryBlends();
        Checks.crushAtOnce(x, 10, 1, 5);
        // the bins have 4, 6 and 0 tonnes
        blend(x, new int[] {10, 50, 100, 10, 100}, 3, NONE, NONE);
        blend(x, new int[] {10, 40, 100, 10, 100}, 4, NONE, NONE);
        blend(x, new int[] {10, 40, 100, 0, 100}, 0, 4, 0);
        blend(x, new int[] {11, 50, 100, 60, 100}, 1, NONE, NONE);
        blend(x, new int[] {10, 0, 39, 0, 100}, 5, NONE, NONE);
    }

    private static void ofContractRounding() {
        QuarryBlends x = new QuarryBlends();
        Checks.crushAtOnce(x, 100, 1, 1);
        Checks.crushAtOnce(x, 100, 9, 9);
        blend(x, new int[] {3, 1, 1, 0, 100}, 2, NONE, NONE);
        blend(x, new int[] {3, 0, 100, 1, 1}, 2, NONE, NONE);
        blend(x, new int[] {3, 1, 34, 0, 100}, 0, 1, 2);
        blend(x, new int[] {7, 14, 14, 0, 0}, 2, NONE, NONE);
        blend(x, new int[] {7, 14, 15, 0, 14}, 0, 1, 0);
        blend(x, new int[] {7, 15, 28, 15, 28}, 2, NONE, NONE);
        blend(x, new int[] {7, 15, 29, 15, 29}, 0, 2, 2);
        blend(x, new int[] {3, 34, 100, 34, 100}, 2, NONE, NONE);
        blend(x, new int[] {1, 1, 99, 0, 100}, 2, NONE, NONE);
        blend(x, new int[] {3, 67, 67, 0, 100}, 2, NONE, NONE);
        blend(x, new int[] {3, 0, 100, 67, 67}, 2, NONE, NONE);
        blend(x, new int[] {3, 0, 100, 66, 67}, 0, 0, 2);
        blend(x, new int[] {50, 3, 3, 5, 5}, 2, NONE, NONE);
        blend(x, new int[] {50, 2, 2, 4, 4}, 5, NONE, NONE);
        blend(x, new int[] {30, 0, 3, 0, 3}, 0, 0, 0);
        blend(x, new int[] {30, 4, 10, 4, 10}, 0, 2, 3);
    }

    private static void bin() {
        QuarryBlends x = new QuarryBlends();
        for (int bin : new int[] {-1, 3, Integer.MIN_VALUE, Integer.MAX_VALUE}) {
            Checks.due("bin(" + bin + ")", x.bin(bin), NO_SUCH);
        }
        Checks.crushAtOnce(x, 99, 3, 7);
        // 99 * 3 * 7 / 100 and 99 * 7 * 3 / 100 are 20.79
        Checks.due("bin(0)", x.bin(0), 20);
        Checks.due("bin(1)", x.bin(1), 59);
        Checks.due("bin(2)", x.bin(2), 20);
        Checks.crushAtOnce(x, 77, 2, 9);
        // 77 * 1 * 8 / 100 is 6.16, 77 * 9 * 2 / 100 is 13.86
        Checks.due("bin(0), more", x.bin(0), 26);
        Checks.due("bin(1), more", x.bin(1), 117);
        Checks.due("bin(2), more", x.bin(2), 33);
    }

    private static void waiting() {
        QuarryBlends x = new QuarryBlends();
        for (int hardness : new int[] {-1, 0, 10, Integer.MIN_VALUE, Integer.MAX_VALUE}) {
            Checks.due("waiting(" + hardness + ")", x.waiting(hardness), NO_SUCH);
        }
        x.set(CRUSH, 1);
        x.set(HOURS, 2);
        x.face(20, 1, 1);
        x.face(19, 9, 1);
        x.face(18, 5, 1);
        x.pass(1);
        int[] due = {19, 0, 0, 0, 18, 0, 0, 0, 19};
        for (int hardness = 1; hardness <= 9; hardness++) {
            Checks.due("waiting(" + hardness + ")", x.waiting(hardness), due[hardness - 1]);
        }
        Checks.due("waiting in all", x.count(4), 56);
    }

    private static void count() {
        QuarryBlends x = withTrucksAway();
        x.contract(500, 0, 100, 0, 100, 1);
        Checks.putText(x, "m;m");
        int[] due = {2, 3, 1, 4, 0, 0, 0, 50, 0, 0, 32, 4, 30, 1, 5, 50, 2, 3, 6};
        for (int what = 0; what < due.length; what++) {
            Checks.due("count(" + what + ")", x.count(what), due[what]);
        }
        for (int what : new int[] {-1, 19, Integer.MIN_VALUE, Integer.MAX_VALUE}) {
            Checks.due("count(" + what + ")", x.count(what), BAD_VALUE);
        }
        x.drop(0);
        x.contract(60, 0, 100, 0, 100, 7);
        x.pass(4);
        Checks.due("one delivered", x.count(8), 1);
        Checks.due("and paid", x.count(9), 420);
        Checks.due("60 tonnes came in hour 3, 9 in hour 4, 60 in hour 5", x.count(5), 50 + 9 + 10 + 50);
        Checks.due("the wear by them", x.count(6), 50 * 4 + 9 * 2 + 10 * 4 + 50 * 6);
    }
}
