import java.util.Set;
import java.util.function.ToIntFunction;

/** The document's terms, sentence by sentence: conventions, settings, faces and trucks, crusher and bins, contracts. */
public final class SentencesOfTermsTest {
    private static final int NO_SUCH = Checks.NO_SUCH, BAD_VALUE = Checks.BAD_VALUE, BAD_TEXT = Checks.BAD_TEXT;
    private static final int TOO_MANY = Checks.TOO_MANY, NOT_POSSIBLE = Checks.NOT_POSSIBLE, NONE = Checks.NONE;
    private static final int TRUCKS = Checks.TRUCKS, LOAD = Checks.LOAD, HOURS = Checks.HOURS;
    private static final int GAP = Checks.GAP, CRUSH = Checks.CRUSH, COST = Checks.COST;

    public static void main(String[] args) {
        headings();
        whatItIs();
        conventions();
        settings();
        facesAndTrucks();
        crusherAndBins();
        contracts();
        blends();
        reasons();
        Sentences.end();
    }

    private static void due(String call, long got, long want) {
        Checks.due(call, got, want);
    }

    /** The sections for which there are tests by sentences, and those of which FaceAndLanguageTest and nobody tells more. */
    private static void headings() {
        Set<String> known = Set.of("QuarryBlends", "What it is", "The public face", "Terms", "Settings", "Faces, trucks", "Crusher, bins",
            "Contracts", "An hour, a day", "Texts", "Promises", "Not promised");
        Checks.about("");
        for (String heading : Sentences.headings()) {
            due("the heading " + heading + " is known", known.contains(heading) || heading.startsWith("Promise ") ? 1 : 0, 1);
        }
    }

    private static void whatItIs() {
        Sentences.under("What it is");
        Sentences.says("An object is used for at most 512 calls after it has been made;");
        QuarryBlends x = new QuarryBlends();
        for (int call = 0; call < 511; call++) {
            if (call % 2 == 0) {
                due("call " + call + ", contract", x.contract(1, 0, 0, 0, 0, 0), 0);
            } else {
                due("call " + call + ", drop", x.drop(0), 0);
            }
        }
        due("call 511, count(18)", x.count(18), 6);
    }

    private static void conventions() {
        Sentences.under("Terms");
        Sentences.says("CONVENTIONS. A method that fails returns one of the error codes NO_SUCH (-1), BAD_VALUE (-2), BAD_TEXT (-3), "
            + "TOO_MANY (-4) and NOT_POSSIBLE (-5);");
        QuarryBlends x = new QuarryBlends();
        due("drop(0)", x.drop(0), -1);
        due("set(6, 0)", x.set(6, 0), -2);
        due("carryOut()", x.carryOut(), -3);
        due("undo()", x.undo(), -5);
        for (int face = 0; face < 8; face++) {
            x.face(1, 1, 1);
        }
        due("face(1, 1, 1)", x.face(1, 1, 1), -4);

        Sentences.says("it names its errors in the order in which they are checked, and the first one that applies is returned.");
        firstErrors();
        Sentences.says("A call that returns an error changes nothing.");
        errorsChangeNothing();
        Sentences.says("NONE (-6) is not an error; it is returned only if no error applies.");
        noneIsNoError();
        Sentences.says("Everything is numbered from 0.");
        x = new QuarryBlends();
        due("the first setting", x.set(0, 3), 3);
        due("the first face", x.face(9, 1, 1), 0);
        due("its first thing", x.ofFace(0, 0), 9);
        due("the first contract", x.contract(8, 0, 100, 0, 100, 0), 0);
        due("its first thing", x.ofContract(0, 0), 8);
        due("the first truck", x.truck(0, 3), 0);
        due("the first bin", x.bin(0), 0);
        due("the first count", x.count(0), 0);
        due("the first slot", x.save(0), 1);
        due("the first thing that would be", x.then(1, 0), 1);

        Sentences.says("Stone is told in whole tonnes.");
        x = new QuarryBlends();
        Checks.crushAtOnce(x, 1, 5, 5);
        due("a tonne isn't parted: fine", x.bin(0), 0);
        due("a tonne isn't parted: middle", x.bin(1), 1);
        due("a tonne isn't parted: coarse", x.bin(2), 0);
        Sentences.says("Divisions are rounded down.");
        x = new QuarryBlends();
        Checks.crushAtOnce(x, 99, 9, 9);
        // 99 * 9 * 9 / 100 is 80.19, 99 * 1 * 1 / 100 is 0.99
        due("fine", x.bin(0), 0);
        due("coarse", x.bin(2), 80);
        due("a wear of 891 / 1000", x.count(7), 200);
        Sentences.whole();
    }

    /** A quarry in which nothing more has room: faces, contracts, hours, history, pad; trucks 1 and 2 are away, slot 1 is empty. */
    private static QuarryBlends full() {
        QuarryBlends x = new QuarryBlends();
        x.set(HOURS, 24);
        for (int month = 0; month < 13; month++) {
            x.pass(30);
        }
        x.pass(26);
        x.set(HOURS, 1);
        x.set(LOAD, 7);
        x.face(7, 3, 1);
        x.face(9, 7, 12);
        for (int face = 2; face < 8; face++) {
            x.face(1, 5, 12);
        }
        for (int contract = 0; contract < 12; contract++) {
            x.contract(100 + contract, 60, 100, 60, 100, contract);
        }
        x.save(0);
        x.pass(1);
        x.set(GAP, 7);
        x.pass(14);
        x.mend();
        x.set(TRUCKS, 3);
        x.set(COST, 9);
        Checks.putText(x, "g1" + ";m".repeat(38) + ";;");
        return x;
    }

    private static void firstErrors() {
        QuarryBlends x = full();
        due("hours", x.count(0), 9999);
        due("trucks away", x.count(3) > 0 ? 1 : 0, 1);
        due("set(TRUCKS, -1), with trucks away", x.set(TRUCKS, -1), BAD_VALUE);
        due("set(TRUCKS, 0), with trucks away", x.set(TRUCKS, 0), NOT_POSSIBLE);
        due("a wrong face behind the last one", x.face(0, 1, 1), BAD_VALUE);
        due("a good face behind the last one", x.face(1, 1, 1), TOO_MANY);
        due("a wrong contract behind the last one", x.contract(1, 0, 0, 0, 0, 100), BAD_VALUE);
        due("a good contract behind the last one", x.contract(1, 0, 0, 0, 0, 99), TOO_MANY);
        due("pass(31) behind the last hour", x.pass(31), BAD_VALUE);
        due("pass(1) behind the last hour", x.pass(1), NOT_POSSIBLE);
        due("ofFace(8, 5)", x.ofFace(8, 5), NO_SUCH);
        due("ofFace(7, 5)", x.ofFace(7, 5), BAD_VALUE);
        due("truck(3, 4)", x.truck(3, 4), NO_SUCH);
        due("truck(2, 4)", x.truck(2, 4), BAD_VALUE);
        due("ofContract(12, 9)", x.ofContract(12, 9), NO_SUCH);
        due("ofContract(11, 9)", x.ofContract(11, 9), BAD_VALUE);
        due("wrong characters behind the last one", x.put(' '), BAD_VALUE);
        due("good characters behind the last one", x.put('m'), TOO_MANY);
        due("restore(2), nothing saved there", x.restore(2), BAD_VALUE);
        due("restore(1), nothing saved there", x.restore(1), NOT_POSSIBLE);
    }

    /** What can be told of a quarry in some 300 calls: the state, the pad, how it comes back by undo(), and the slots. */
    private static String told(QuarryBlends x) {
        StringBuilder told = new StringBuilder(Checks.stateOf(x));
        told.append("; changes ").append(x.count(18)).append("; pad ").append(x.count(17)).append(' ').append(x.fault());
        for (int back = 0; back < 7; back++) {
            told.append("; undone ").append(x.undo());
            for (int what : new int[] {0, 2, 3, 6, 8, 10, 14, 16}) {
                told.append(' ').append(x.count(what));
            }
        }
        told.append("; slots ").append(x.restore(1)).append(' ').append(x.restore(0));
        for (int what = 0; what < 17; what++) {
            told.append(' ').append(x.count(what));
        }
        return told.append("; wiped ").append(x.wipe()).toString();
    }

    private static void refused(String name, ToIntFunction<QuarryBlends> call, int error) {
        String due = told(full());
        QuarryBlends x = full();
        due(name, call.applyAsInt(x), error);
        Checks.due("all behind " + name, told(x), due);
    }

    private static void errorsChangeNothing() {
        refused("set(6, 1)", x -> x.set(6, 1), BAD_VALUE);
        refused("set(GAP, 10)", x -> x.set(GAP, 10), BAD_VALUE);
        refused("set(TRUCKS, 0)", x -> x.set(TRUCKS, 0), NOT_POSSIBLE);
        refused("face(0, 1, 1)", x -> x.face(0, 1, 1), BAD_VALUE);
        refused("face(1, 1, 1)", x -> x.face(1, 1, 1), TOO_MANY);
        refused("contract(1, 2, 1, 0, 0, 0)", x -> x.contract(1, 2, 1, 0, 0, 0), BAD_VALUE);
        refused("contract(1, 0, 0, 0, 0, 0)", x -> x.contract(1, 0, 0, 0, 0, 0), TOO_MANY);
        refused("drop(12)", x -> x.drop(12), NO_SUCH);
        refused("drop(-1)", x -> x.drop(-1), NO_SUCH);
        refused("pass(0)", x -> x.pass(0), BAD_VALUE);
        refused("pass(1)", x -> x.pass(1), NOT_POSSIBLE);
        refused("ofFace(8, 0)", x -> x.ofFace(8, 0), NO_SUCH);
        refused("ofFace(0, 5)", x -> x.ofFace(0, 5), BAD_VALUE);
        refused("truck(3, 0)", x -> x.truck(3, 0), NO_SUCH);
        refused("truck(0, 4)", x -> x.truck(0, 4), BAD_VALUE);
        refused("ofContract(12, 0)", x -> x.ofContract(12, 0), NO_SUCH);
        refused("ofContract(0, 9)", x -> x.ofContract(0, 9), BAD_VALUE);
        refused("bin(3)", x -> x.bin(3), NO_SUCH);
        refused("waiting(10)", x -> x.waiting(10), NO_SUCH);
        refused("count(19)", x -> x.count(19), BAD_VALUE);
        refused("then(31, 0)", x -> x.then(31, 0), BAD_VALUE);
        refused("bestGap(31, 0)", x -> x.bestGap(31, 0), BAD_VALUE);
        refused("leastTrucks(31, 0)", x -> x.leastTrucks(31, 0), BAD_VALUE);
        refused("put(32)", x -> x.put(32), BAD_VALUE);
        refused("put('m')", x -> x.put('m'), TOO_MANY);
        refused("carryOut()", x -> x.carryOut(), BAD_TEXT);
        refused("save(2)", x -> x.save(2), BAD_VALUE);
        refused("restore(2)", x -> x.restore(2), BAD_VALUE);
        refused("restore(1)", x -> x.restore(1), NOT_POSSIBLE);
        QuarryBlends x = new QuarryBlends();
        due("undo() of nothing", x.undo(), NOT_POSSIBLE);
        Checks.due("all behind it", told(x), told(new QuarryBlends()));
    }

    private static void noneIsNoError() {
        QuarryBlends x = new QuarryBlends();
        x.contract(1, 0, 0, 0, 0, 0);
        due("a truck that waits: truck(0, 0)", x.truck(0, 0), -6);
        due("a truck that waits: truck(0, 4)", x.truck(0, 4), BAD_VALUE);
        due("a truck that waits: truck(0, -1)", x.truck(0, -1), BAD_VALUE);
        due("no blend: ofContract(0, 8)", x.ofContract(0, 8), -6);
        due("no blend: ofContract(0, 9)", x.ofContract(0, 9), BAD_VALUE);
        due("no setting: leastTrucks(1, 2)", x.leastTrucks(1, 2), -6);
        due("no setting: leastTrucks(0, 2)", x.leastTrucks(0, 2), BAD_VALUE);
        Checks.putText(x, "m");
        due("no fault: fault()", x.fault(), -6);
        due("that is no error: carryOut()", x.carryOut(), 1);
    }

    /** Asks for the range and the first value of a setting. */
    private static void range(String words, int setting, int least, int most, int first) {
        Sentences.says(words);
        QuarryBlends x = new QuarryBlends();
        due("first value", x.count(11 + setting), first);
        for (int value : Checks.outside(least, most)) {
            due("set(" + setting + ", " + value + ")", x.set(setting, value), BAD_VALUE);
        }
        due("the least one", x.set(setting, least), first);
        due("the most one", x.set(setting, most), least);
        due("the value now", x.count(11 + setting), most);
    }

    /** A quarry of days of one hour, with one face of soft stone. */
    private static QuarryBlends hourly(int tonnes, int way) {
        QuarryBlends x = new QuarryBlends();
        x.set(HOURS, 1);
        x.face(tonnes, 1, way);
        return x;
    }

    private static void settings() {
        Sentences.under("Settings");
        range("(In parentheses: range; first value.) TRUCKS (0 to 20; 3);", TRUCKS, 0, 20, 3);
        for (int trucks : new int[] {0, 1, 3, 20}) {
            QuarryBlends x = hourly(9999, 5);
            x.set(TRUCKS, trucks);
            x.pass(1);
            due("trucks away of " + trucks, x.count(3), trucks);
        }
        range("LOAD (1 to 40; 20): tonnes of a truck;", LOAD, 1, 40, 20);
        for (int load : new int[] {1, 40}) {
            QuarryBlends x = hourly(9999, 5);
            x.set(LOAD, load);
            x.pass(1);
            due("a load of " + load, x.truck(0, 1), load);
        }
        range("HOURS (1 to 24; 8): of a day;", HOURS, 1, 24, 8);
        for (int hours : new int[] {1, 8, 24}) {
            QuarryBlends x = new QuarryBlends();
            x.set(HOURS, hours);
            x.pass(3);
            due("three days of " + hours, x.count(0), 3 * hours);
        }
        range("GAP (1 to 9; 5): of the crusher;", GAP, 1, 9, 5);
        for (int gap : new int[] {1, 9}) {
            QuarryBlends x = new QuarryBlends();
            Checks.crushAtOnce(x, 100, 5, gap);
            due("coarse tonnes by the gap " + gap, x.bin(2), 5 * gap);
        }
        range("CRUSH (1 to 200; 50): tonnes that it crushes in an hour when it is new;", CRUSH, 1, 200, 50);
        for (int crush : new int[] {1, 50, 200}) {
            QuarryBlends x = hourly(9999, 1);
            x.set(TRUCKS, 20);
            x.set(CRUSH, crush);
            due("tonnes in an hour", x.count(7), crush);
            x.pass(2);
            due("crushed in the hour in which loads came", x.count(5), crush);
        }
        range("COST (0 to 99; 2): of an hour of a truck on its way.", COST, 0, 99, 2);
        for (int cost : new int[] {0, 2, 99}) {
            QuarryBlends x = hourly(20, 12);
            x.set(COST, cost);
            x.pass(1);
            due("twelve hours for " + cost, x.count(10), 12 * cost);
        }
        Sentences.whole();
    }

    private static void facesAndTrucks() {
        Sentences.under("Faces, trucks");
        Sentences.says("There are up to 8 faces, numbered in the order in which they came;");
        QuarryBlends x = new QuarryBlends();
        for (int face = 0; face < 8; face++) {
            due("face number " + face, x.face(100 + face, 1, 1), face);
        }
        due("a ninth one", x.face(1, 1, 1), TOO_MANY);
        for (int face = 0; face < 8; face++) {
            due("the tonnes of face " + face, x.ofFace(face, 0), 100 + face);
        }
        due("faces", x.count(1), 8);
        x = new QuarryBlends();
        x.set(HOURS, 1);
        x.set(TRUCKS, 20);
        x.face(20, 5, 1);
        x.pass(2);
        due("a face without stone is a face", x.count(1), 1);
        due("and keeps its number", x.face(30, 5, 1), 1);

        Sentences.says("a face has tonnes (1 to 9999 at first), hardness (1 to 9), and a way: hours that a truck takes to and fro (1 to 12).");
        x = new QuarryBlends();
        for (int tonnes : Checks.outside(1, 9999)) {
            due("face(" + tonnes + ", 1, 1)", x.face(tonnes, 1, 1), BAD_VALUE);
        }
        for (int hardness : Checks.outside(1, 9)) {
            due("face(1, " + hardness + ", 1)", x.face(1, hardness, 1), BAD_VALUE);
        }
        for (int way : Checks.outside(1, 12)) {
            due("face(1, 1, " + way + ")", x.face(1, 1, way), BAD_VALUE);
        }
        due("the least one", x.face(1, 1, 1), 0);
        due("the most one", x.face(9999, 9, 12), 1);
        x.set(HOURS, 2);
        x.pass(1);
        due("at first: of the least one none is left", x.ofFace(0, 0) + x.ofFace(0, 4), 1);
        due("truck 0 comes from the most one, 12 hours later", x.truck(0, 2), 12);

        Sentences.says("There are TRUCKS trucks, numbered from 0;");
        for (int trucks : new int[] {0, 1, 20}) {
            x = new QuarryBlends();
            x.set(TRUCKS, trucks);
            due("truck(-1, 3) of " + trucks, x.truck(-1, 3), NO_SUCH);
            due("truck(0, 3) of " + trucks, x.truck(0, 3), trucks == 0 ? NO_SUCH : 0);
            due("the last one of " + trucks, x.truck(trucks - 1, 3), trucks == 0 ? NO_SUCH : 0);
            due("one more than " + trucks, x.truck(trucks, 3), NO_SUCH);
        }
        Sentences.says("each waits, or is on its way.");
        x = hourly(40, 2);
        due("all three wait", x.count(3), 0);
        x.pass(1);
        due("truck 0 is on its way", x.truck(0, 2), 2);
        due("truck 1 is on its way", x.truck(1, 2), 2);
        due("truck 2 waits", x.truck(2, 2), NONE);
        due("two on their way", x.count(3), 2);
        Sentences.whole();
    }

    /** Brings so many tonnes (200 at most) and crushes them at once. */
    private static QuarryBlends crushed(int tonnes, int hardness, int gap) {
        QuarryBlends x = new QuarryBlends();
        x.set(TRUCKS, 20);
        x.set(HOURS, 2);
        x.set(CRUSH, 200);
        x.set(GAP, gap);
        x.face(tonnes, hardness, 1);
        x.pass(1);
        return x;
    }

    private static void crusherAndBins() {
        Sentences.under("Crusher, bins");
        Sentences.says("Stone lies in front of the crusher, of each hardness by itself.");
        QuarryBlends x = new QuarryBlends();
        x.set(HOURS, 2);
        x.set(TRUCKS, 8);
        x.set(CRUSH, 1);
        x.face(12, 1, 1);
        x.face(13, 9, 1);
        x.face(14, 4, 1);
        x.face(15, 4, 1);
        x.pass(1);
        int[] lies = {11, 0, 0, 29, 0, 0, 0, 0, 13};
        for (int hardness = 1; hardness <= 9; hardness++) {
            due("stone of hardness " + hardness, x.waiting(hardness), lies[hardness - 1]);
        }

        Sentences.says("Of T tonnes of the hardness h that are crushed at once with the gap g, T * (10 - g) * (10 - h) / 100 are fine, "
            + "T * g * h / 100 are coarse, and the rest is middle.");
        for (int t : new int[] {1, 2, 99, 100, 101, 200}) {
            for (int h = 1; h <= 9; h++) {
                for (int g = 1; g <= 9; g++) {
                    x = crushed(t, h, g);
                    String name = t + " tonnes of " + h + " by " + g + ": ";
                    int fine = t * (10 - g) * (10 - h) / 100;
                    int coarse = t * g * h / 100;
                    due(name + "fine", x.bin(0), fine);
                    due(name + "middle", x.bin(1), t - fine - coarse);
                    due(name + "coarse", x.bin(2), coarse);
                }
            }
        }
        x = crushed(2, 1, 1);
        due("162 / 100 fine", x.bin(0), 1);
        x = crushed(100, 5, 5);
        due("100 of 5 by 5: middle", x.bin(1), 50);

        Sentences.says("There are three bins: fine (0), middle (1), coarse (2).");
        x = Checks.withBins(11, 22, 33);
        int[] tonnes = {NO_SUCH, 11, 22, 33, NO_SUCH};
        for (int bin = -1; bin <= 3; bin++) {
            due("bin(" + bin + ")", x.bin(bin), tonnes[bin + 1]);
        }

        Sentences.says("The wear (0 at first) becomes greater by T * h for T tonnes of the hardness h.");
        x = new QuarryBlends();
        due("at first", x.count(6), 0);
        due("of 1 tonne of 1", crushed(1, 1, 5).count(6), 1);
        due("of 1 tonne of 9", crushed(1, 9, 5).count(6), 9);
        x = crushed(200, 9, 5);
        due("of 200 tonnes of 9", x.count(6), 1800);
        x.face(7, 3, 1);
        x.pass(1);
        due("of 7 tonnes of 3 more", x.count(6), 1821);
        wear();
        Sentences.whole();
    }

    private static void wear() {
        Sentences.says("The crusher crushes CRUSH less wear / 1000 tonnes in an hour (by the wear ahead of it), but at least 1.");
        QuarryBlends x = crushed(111, 9, 5);
        due("a wear of 999", x.count(7), 200);
        x.face(400, 1, 1);
        x.pass(1);
        due("200 tonnes in an hour", x.count(5), 111 + 200);
        x.undo();
        x.undo();
        x.face(1, 1, 1);
        x.pass(1);
        due("a wear of 1000", x.count(7), 199);
        x.face(400, 1, 1);
        x.pass(1);
        due("199 tonnes in an hour", x.count(5), 112 + 199);
        x = new QuarryBlends();
        x.set(TRUCKS, 20);
        x.set(HOURS, 2);
        x.set(CRUSH, 200);
        x.face(400, 9, 1);
        x.pass(1);
        due("by the wear ahead of the hour", x.count(5), 200);
        due("the wear behind it", x.count(6), 1800);
        x.set(CRUSH, 3);
        due("3 less 1", x.count(7), 2);
        x.set(CRUSH, 2);
        due("2 less 1", x.count(7), 1);
        x.set(CRUSH, 1);
        due("1 less 1", x.count(7), 1);
        x.pass(1);
        due("a tonne in each of two hours", x.count(5), 202);
        x.set(CRUSH, 200);
        x.pass(1);
        due("a wear of 3600", x.count(6), 3600);
        x.set(CRUSH, 1);
        due("1 less 3", x.count(7), 1);
        x.face(5, 1, 1);
        x.pass(2);
        due("a tonne in each of three hours", x.count(5), 403);
    }

    private static void contracts() {
        Sentences.under("Contracts");
        Sentences.says("There are up to 12 contracts, numbered in the order in which they came (when one is delivered or dropped, "
            + "those behind it move up).");
        QuarryBlends x = new QuarryBlends();
        for (int contract = 0; contract < 12; contract++) {
            due("contract number " + contract, x.contract(100 + contract, 0, 0, 0, 0, 0), contract);
        }
        due("a thirteenth one", x.contract(1, 0, 0, 0, 0, 0), TOO_MANY);
        due("contracts", x.count(2), 12);
        x.drop(11);
        x.drop(5);
        x.drop(0);
        int[] left = {101, 102, 103, 104, 106, 107, 108, 109, 110};
        for (int contract = 0; contract < 9; contract++) {
            due("left as " + contract, x.ofContract(contract, 0), left[contract]);
        }
        due("there is no other", x.ofContract(9, 0), NO_SUCH);
        x = Checks.withBins(0, 9, 0);
        for (int contract = 0; contract < 12; contract++) {
            int tonnes = contract == 0 || contract == 5 || contract == 11 ? 3 : 100 + contract;
            x.contract(tonnes, 0, 0, 0, 0, contract);
        }
        due("three are delivered", x.pass(1), 3);
        left = new int[] {1, 2, 3, 4, 6, 7, 8, 9, 10};
        for (int contract = 0; contract < 9; contract++) {
            due("not delivered, now " + contract, x.ofContract(contract, 5), left[contract]);
        }
        due("there is no other", x.ofContract(9, 0), NO_SUCH);
        due("the next one's number", x.contract(1, 0, 0, 0, 0, 0), 9);

        Sentences.says("A contract asks for tonnes (1 to 500), has a sieve: the least and the most hundredths that may be fine, "
            + "and those that may be coarse (0 to 100 each), and pays a price for each tonne (0 to 99).");
        x = new QuarryBlends();
        for (int tonnes : Checks.outside(1, 500)) {
            due("tonnes " + tonnes, x.contract(tonnes, 0, 0, 0, 0, 0), BAD_VALUE);
        }
        for (int hundredths : Checks.outside(0, 100)) {
            due("least fine " + hundredths, x.contract(1, hundredths, 100, 0, 0, 0), BAD_VALUE);
            due("most fine " + hundredths, x.contract(1, 0, hundredths, 0, 0, 0), BAD_VALUE);
            due("least coarse " + hundredths, x.contract(1, 0, 0, hundredths, 100, 0), BAD_VALUE);
            due("most coarse " + hundredths, x.contract(1, 0, 0, 0, hundredths, 0), BAD_VALUE);
        }
        for (int price : Checks.outside(0, 99)) {
            due("price " + price, x.contract(1, 0, 0, 0, 0, price), BAD_VALUE);
        }
        due("all the least", x.contract(1, 0, 0, 0, 0, 0), 0);
        due("all the most", x.contract(500, 100, 100, 100, 100, 99), 1);
        int[] most = {500, 100, 100, 100, 100, 99};
        for (int what = 0; what < 6; what++) {
            due("of the least " + what, x.ofContract(0, what), what == 0 ? 1 : 0);
            due("of the most " + what, x.ofContract(1, what), most[what]);
        }
    }

    /** The reason against a contract, and the fine and the coarse tonnes of its blend. */
    private static void blend(QuarryBlends x, int[] terms, int reason, int fine, int coarse) {
        int number = x.contract(terms[0], terms[1], terms[2], terms[3], terms[4], 1);
        String name = java.util.Arrays.toString(terms);
        due("reason against " + name, x.ofContract(number, 6), reason);
        due("fine of " + name, x.ofContract(number, 7), fine);
        due("coarse of " + name, x.ofContract(number, 8), coarse);
        x.drop(number);
    }

    private static void against(QuarryBlends x, int reason, int... terms) {
        blend(x, terms, reason, NONE, NONE);
    }

    private static void blends() {
        Sentences.says("A blend of T tonnes has some fine and some coarse tonnes, and the rest is middle (none of them below 0).");
        QuarryBlends x = Checks.withBins(100, 50, 100);
        blend(x, new int[] {50, 0, 0, 0, 0}, 0, 0, 0);
        blend(x, new int[] {100, 60, 100, 40, 100}, 0, 60, 40);
        against(x, 2, 100, 60, 100, 41, 100);
        blend(x, new int[] {100, 100, 100, 0, 100}, 0, 100, 0);
        blend(x, new int[] {100, 0, 100, 100, 100}, 0, 0, 100);
        blend(x, new int[] {3, 33, 100, 34, 100}, 0, 1, 2);
        against(x, 2, 3, 34, 100, 34, 100);

        Sentences.says("It is within the sieve if 100 times its fine tonnes are from T times the least to T times the most fine hundredths,");
        blend(x, new int[] {30, 10, 10, 0, 0}, 0, 3, 0);
        blend(x, new int[] {31, 9, 10, 0, 0}, 0, 3, 0);
        blend(x, new int[] {29, 10, 11, 0, 0}, 0, 3, 0);
        against(x, 2, 31, 10, 12, 0, 0);
        against(x, 2, 29, 8, 10, 0, 0);
        against(x, 2, 1, 1, 99, 0, 0);
        blend(x, new int[] {100, 1, 1, 0, 99}, 0, 1, 99);
        blend(x, new int[] {150, 0, 1, 0, 66}, 0, 1, 99);
        against(x, 5, 150, 0, 0, 0, 66);
        Sentences.says("and likewise its coarse ones.");
        blend(x, new int[] {30, 0, 0, 10, 10}, 0, 0, 3);
        blend(x, new int[] {31, 0, 0, 9, 10}, 0, 0, 3);
        blend(x, new int[] {29, 0, 0, 10, 11}, 0, 0, 3);
        against(x, 2, 31, 0, 0, 10, 12);
        against(x, 2, 29, 0, 0, 8, 10);
        against(x, 2, 1, 0, 0, 1, 99);
        blend(x, new int[] {100, 0, 99, 1, 1}, 0, 49, 1);
        blend(x, new int[] {150, 0, 66, 0, 1}, 0, 99, 1);
        against(x, 5, 150, 0, 66, 0, 0);

        Sentences.says("It can be made if each bin has what it takes.");
        x = Checks.withBins(10, 20, 30);
        blend(x, new int[] {60, 0, 100, 0, 100}, 0, 10, 30);
        blend(x, new int[] {10, 100, 100, 0, 0}, 0, 10, 0);
        against(x, 3, 11, 100, 100, 0, 0);
        blend(x, new int[] {20, 0, 0, 0, 0}, 0, 0, 0);
        against(x, 5, 21, 0, 0, 0, 0);
        blend(x, new int[] {30, 0, 0, 100, 100}, 0, 0, 30);
        against(x, 4, 31, 0, 0, 100, 100);

        Sentences.says("The blend of a contract by rule is, of those within its sieve that can be made, the one with the most coarse tonnes, "
            + "of several the one with the fewest fine tonnes.");
        x = Checks.withBins(40, 30, 50);
        blend(x, new int[] {40, 0, 100, 0, 100}, 0, 0, 40);
        blend(x, new int[] {40, 0, 100, 0, 50}, 0, 0, 20);
        blend(x, new int[] {40, 30, 100, 0, 100}, 0, 12, 28);
        blend(x, new int[] {40, 30, 100, 0, 50}, 0, 12, 20);
        blend(x, new int[] {60, 0, 100, 0, 100}, 0, 0, 50);
        blend(x, new int[] {60, 0, 100, 0, 40}, 0, 6, 24);
        blend(x, new int[] {90, 0, 100, 0, 100}, 0, 10, 50);
        blend(x, new int[] {90, 20, 100, 0, 100}, 0, 18, 50);
        blend(x, new int[] {120, 0, 100, 0, 100}, 0, 40, 50);
    }

    private static void reasons() {
        Sentences.says("The reason against a contract is the first of these: 1: all bins together have less than its tonnes;");
        QuarryBlends x = Checks.withBins(10, 20, 30);
        against(x, 1, 61, 0, 100, 0, 100);
        blend(x, new int[] {60, 0, 100, 0, 100}, 0, 10, 30);
        against(x, 1, 500, 60, 100, 60, 100);
        against(x, 2, 60, 60, 100, 60, 100);
        against(new QuarryBlends(), 1, 1, 0, 100, 0, 100);
        against(new QuarryBlends(), 1, 1, 51, 100, 50, 100);

        Sentences.says("2: no blend is within its sieve, whatever there is;");
        against(x, 2, 60, 100, 100, 100, 100);
        against(x, 2, 1, 50, 50, 0, 0);
        against(x, 2, 1, 0, 0, 50, 50);
        against(x, 2, 3, 67, 99, 100, 100);
        blend(x, new int[] {2, 50, 50, 50, 50}, 0, 1, 1);

        Sentences.says("3: the fine bin has less than each blend within its sieve takes;");
        against(x, 3, 20, 55, 100, 0, 100);
        blend(x, new int[] {20, 50, 100, 0, 100}, 0, 10, 10);
        against(x, 3, 50, 22, 30, 70, 78);
        against(x, 3, 60, 18, 100, 51, 100);

        Sentences.says("4: the coarse bin has;");
        against(x, 4, 40, 0, 100, 76, 100);
        blend(x, new int[] {40, 0, 100, 75, 100}, 0, 0, 30);
        against(x, 4, 60, 16, 100, 51, 100);
        against(x, 4, 60, 0, 0, 51, 100);

        Sentences.says("5: no blend within its sieve can be made.");
        against(x, 5, 21, 0, 4, 0, 4);
        blend(x, new int[] {21, 0, 5, 0, 4}, 0, 1, 0);
        blend(x, new int[] {21, 0, 4, 0, 5}, 0, 0, 1);
        against(x, 5, 60, 0, 16, 0, 100);
        against(x, 5, 60, 0, 100, 0, 49);
        against(x, 5, 55, 0, 10, 0, 52);
        blend(x, new int[] {55, 0, 10, 0, 56}, 0, 5, 30);

        Sentences.says("0: it can be delivered.");
        int number = x.contract(60, 0, 17, 0, 50, 3);
        due("the reason", x.ofContract(number, 6), 0);
        due("pass(1)", x.pass(1), 1);
        due("all is taken", x.bin(0) + x.bin(1) + x.bin(2), 0);
        Sentences.whole();
    }
}
