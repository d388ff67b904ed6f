import java.util.ArrayList;
import java.util.List;
import java.util.Random;
import java.util.regex.Matcher;
import java.util.regex.Pattern;

/** All promises at once: long runs of calls by chance, against a model that goes word by word through the document. */
public final class RandomRunsTest {
    private static final int RUNS = 1500, CALLS = 512;

    public static void main(String[] args) {
        for (int run = 0; run < RUNS && !Checks.anyWrong(); run++) {
            new Run(run).go();
        }
        Checks.end();
    }

    /** Seeds are the runs' numbers, so that each run can be done again. */
    private static final class Run {
        private final int number;
        private final Random chance;
        private final QuarryBlends x = new QuarryBlends();
        private final Model model = new Model();
        private final boolean small;
        private int calls;

        Run(int number) {
            this.number = number;
            chance = new Random(number);
            small = chance.nextBoolean();
        }

        void go() {
            for (calls = 0; calls < CALLS && !Checks.anyWrong(); calls++) {
                call();
            }
        }

        private int from(int least, int most) {
            return least + chance.nextInt(most - least + 1);
        }

        /** A number within its range for the most part, else at its edges or anywhere. */
        private int near(int least, int most) {
            int kind = chance.nextInt(60);
            if (kind == 0) {
                return chance.nextInt();
            }
            return kind == 1 ? least - 1 : kind == 2 ? most + 1 : kind == 3 ? least : kind == 4 ? most : from(least, most);
        }

        private void due(String call, int got, int want) {
            Checks.due("run " + number + ", call " + calls + ": " + call, got, want);
        }

        private void call() {
            int kind = chance.nextInt(100);
            if (kind < 26) {
                change(kind);
            } else if (kind < 76) {
                ask();
            } else if (kind < 83) {
                askWhatWouldBe();
            } else if (kind < 92) {
                text();
            } else {
                takeBack();
            }
        }

        private void change(int kind) {
            if (kind < 5) {
                int setting = near(0, 5);
                int[] least = {0, 1, 1, 1, 1, 0};
                int[] most = {20, 40, 24, 9, 200, 99};
                boolean known = setting >= 0 && setting < 6;
                int value = known ? near(least[setting], most[setting]) : 1;
                due("set(" + setting + ", " + value + ")", x.set(setting, value), model.set(setting, value));
            } else if (kind < 9) {
                int[] a = {near(1, small ? 90 : 9999), near(1, 9), near(1, 12)};
                due("face" + java.util.Arrays.toString(a), x.face(a[0], a[1], a[2]), model.face(a[0], a[1], a[2]));
            } else if (kind < 17) {
                int[] a = contract();
                due("contract" + java.util.Arrays.toString(a), x.contract(a[0], a[1], a[2], a[3], a[4], a[5]),
                    model.contract(a[0], a[1], a[2], a[3], a[4], a[5]));
            } else if (kind < 18) {
                int contract = near(0, 11);
                due("drop(" + contract + ")", x.drop(contract), model.drop(contract));
            } else if (kind < 19) {
                due("mend()", x.mend(), model.mend());
            } else {
                int days = near(1, chance.nextInt(5) == 0 ? 30 : 3);
                due("pass(" + days + ")", x.pass(days), model.pass(days));
            }
        }

        private int[] contract() {
            int leastFine = near(0, chance.nextBoolean() ? 60 : 5);
            int mostFine = near(Math.max(0, Math.min(100, leastFine)), 100);
            int leastCoarse = near(0, chance.nextBoolean() ? 60 : 5);
            int mostCoarse = near(Math.max(0, Math.min(100, leastCoarse)), 100);
            return new int[] {near(1, small ? 40 : 500), leastFine, mostFine, leastCoarse, mostCoarse, near(0, 99)};
        }

        private void ask() {
            int kind = chance.nextInt(12);
            int what;
            int which;
            if (kind < 2) {
                due("ofFace(" + (which = near(0, 3)) + ", " + (what = near(0, 4)) + ")", x.ofFace(which, what), model.ofFace(which, what));
            } else if (kind < 4) {
                due("truck(" + (which = near(0, 5)) + ", " + (what = near(0, 3)) + ")", x.truck(which, what), model.truck(which, what));
            } else if (kind < 8) {
                due("ofContract(" + (which = near(0, 4)) + ", " + (what = chance.nextBoolean() ? near(0, 8) : from(6, 8)) + ")",
                    x.ofContract(which, what), model.ofContract(which, what));
            } else if (kind < 9) {
                due("bin(" + (which = near(0, 2)) + ")", x.bin(which), model.bin(which));
            } else if (kind < 10) {
                due("waiting(" + (which = near(1, 9)) + ")", x.waiting(which), model.waiting(which));
            } else {
                due("count(" + (what = near(0, 18)) + ")", x.count(what), model.count(what));
            }
        }

        private void askWhatWouldBe() {
            int kind = chance.nextInt(4);
            int days = near(1, kind < 2 ? 30 : 4);
            int what = near(0, 1);
            if (kind < 2) {
                due("then(" + days + ", " + what + ")", x.then(days, what), model.then(days, what));
            } else if (kind < 3) {
                due("bestGap(" + days + ", " + what + ")", x.bestGap(days, what), model.bestGap(days, what));
            } else {
                int contracts = near(0, 3);
                due("leastTrucks(" + days + ", " + contracts + ")", x.leastTrucks(days, contracts), model.leastTrucks(days, contracts));
            }
        }

        private void text() {
            int kind = chance.nextInt(10);
            if (kind < 1) {
                due("wipe()", x.wipe(), model.wipe());
            } else if (kind < 2) {
                long any = chance.nextLong() >>> chance.nextInt(64);
                due("put(" + any + ")", x.put(any), model.put(any));
            } else if (kind < 6) {
                putOrders();
            } else if (kind < 8) {
                due("fault()", x.fault(), model.fault());
            } else {
                due("carryOut()", x.carryOut(), model.carryOut());
            }
        }

        /** Puts orders by chance; sometimes one sign of them is another one. */
        private void putOrders() {
            StringBuilder orders = new StringBuilder();
            if (!model.pad.isEmpty()) {
                orders.append(';');
            }
            int amount = from(1, 3);
            for (int i = 0; i < amount; i++) {
                orders.append(i == 0 ? "" : ";").append(order());
            }
            if (chance.nextInt(8) == 0) {
                orders.setCharAt(chance.nextInt(orders.length()), "0123456789;*+:-/$fcgdmx~".charAt(chance.nextInt(24)));
            }
            for (int at = 0; at < orders.length() && calls < CALLS; at += 8) {
                long packed = Checks.packed(orders.substring(at, Math.min(orders.length(), at + 8)));
                due("put(" + packed + ")", x.put(packed), model.put(packed));
                calls++;
            }
            calls--;
        }

        private String order() {
            switch (chance.nextInt(7)) {
                case 0: return "f" + Math.abs(near(1, 9999)) % 20000 + "*" + from(1, 9) + "+" + from(0, 13);
                case 1:
                case 2:
                    int[] a = contract();
                    for (int i = 0; i < a.length; i++) {
                        a[i] = Math.abs(a[i] % 12000);
                    }
                    return "c" + a[0] + ":" + a[1] + "-" + a[2] + "/" + a[3] + "-" + a[4] + "$" + a[5];
                case 3: return "g" + from(1, 9);
                case 4: return "d" + from(chance.nextInt(6) == 0 ? 0 : 1, 4);
                case 5: return "m";
                default: return "x" + from(0, 3);
            }
        }

        private void takeBack() {
            int kind = chance.nextInt(8);
            int slot = near(0, 1);
            if (kind < 5) {
                due("undo()", x.undo(), model.undo());
            } else if (kind < 6) {
                due("save(" + slot + ")", x.save(slot), model.save(slot));
            } else {
                due("restore(" + slot + ")", x.restore(slot), model.restore(slot));
            }
        }
    }

    private static final class Face {
        int tonnes;
        int left;
        int hardness;
        int way;
    }

    private static final class Truck {
        Face from;
        int face;
        int load;
        int back;
        int sent;
    }

    private static final class State {
        int[] settings = {3, 20, 8, 5, 50, 2};
        List<Face> faces = new ArrayList<>();
        List<Truck> trucks = new ArrayList<>();
        List<int[]> contracts = new ArrayList<>();
        int[] front = new int[10];
        int[] bins = new int[3];
        int hours;
        int crushed;
        int wear;
        int delivered;
        int paid;
        int costs;

        State() {
            for (int truck = 0; truck < 20; truck++) {
                trucks.add(new Truck());
            }
        }

        State copy() {
            State copy = new State();
            copy.settings = settings.clone();
            for (Face face : faces) {
                Face other = new Face();
                other.tonnes = face.tonnes;
                other.left = face.left;
                other.hardness = face.hardness;
                other.way = face.way;
                copy.faces.add(other);
            }
            for (int i = 0; i < 20; i++) {
                Truck truck = trucks.get(i);
                Truck other = copy.trucks.get(i);
                other.from = truck.from == null ? null : copy.faces.get(truck.face);
                other.face = truck.face;
                other.load = truck.load;
                other.back = truck.back;
                other.sent = truck.sent;
            }
            for (int[] contract : contracts) {
                copy.contracts.add(contract.clone());
            }
            copy.front = front.clone();
            copy.bins = bins.clone();
            copy.hours = hours;
            copy.crushed = crushed;
            copy.wear = wear;
            copy.delivered = delivered;
            copy.paid = paid;
            copy.costs = costs;
            return copy;
        }

        int inAnHour() {
            int tonnes = settings[4] - wear / 1000;
            return tonnes < 1 ? 1 : tonnes;
        }

        int away() {
            int away = 0;
            for (Truck truck : trucks) {
                away += truck.from == null ? 0 : 1;
            }
            return away;
        }

        boolean canHaveTrucks(int amount) {
            for (int truck = amount; truck < 20; truck++) {
                if (trucks.get(truck).from != null) {
                    return false;
                }
            }
            return true;
        }

        void hour() {
            for (Truck truck : trucks) {
                if (truck.from != null && truck.back == hours) {
                    front[truck.from.hardness] += truck.load;
                    truck.from = null;
                }
            }
            for (int i = 0; i < settings[0]; i++) {
                Truck truck = trucks.get(i);
                Face fullest = null;
                for (Face face : faces) {
                    if (face.left > 0 && (fullest == null || face.left > fullest.left)) {
                        fullest = face;
                    }
                }
                if (truck.from == null && fullest != null) {
                    truck.from = fullest;
                    truck.face = faces.indexOf(fullest);
                    truck.load = Math.min(settings[1], fullest.left);
                    truck.back = hours + fullest.way;
                    truck.sent++;
                    fullest.left -= truck.load;
                    costs += settings[5] * fullest.way;
                }
            }
            int can = inAnHour();
            int[] atOnce = new int[10];
            for (int tonne = 0; tonne < can; tonne++) {
                for (int hardness = 1; hardness <= 9; hardness++) {
                    if (front[hardness] > 0) {
                        front[hardness]--;
                        atOnce[hardness]++;
                        break;
                    }
                }
            }
            int g = settings[3];
            for (int h = 1; h <= 9; h++) {
                int fine = atOnce[h] * (10 - g) * (10 - h) / 100;
                int coarse = atOnce[h] * g * h / 100;
                bins[0] += fine;
                bins[2] += coarse;
                bins[1] += atOnce[h] - fine - coarse;
                wear += atOnce[h] * h;
                crushed += atOnce[h];
            }
            hours++;
        }

        void days(int days) {
            for (int day = 0; day < days; day++) {
                for (int hour = 0; hour < settings[2]; hour++) {
                    hour();
                }
                for (int i = 0; i < contracts.size(); i++) {
                    int[] contract = contracts.get(i);
                    if (reason(contract) == 0) {
                        int[] blend = blend(contract);
                        bins[0] -= blend[0];
                        bins[2] -= blend[1];
                        bins[1] -= contract[0] - blend[0] - blend[1];
                        paid += contract[0] * contract[5];
                        delivered++;
                        contracts.remove(i);
                        i--;
                    }
                }
            }
        }

        static boolean inSieve(int[] c, int fine, int coarse) {
            return fine + coarse <= c[0] && 100 * fine >= c[0] * c[1] && 100 * fine <= c[0] * c[2]
                && 100 * coarse >= c[0] * c[3] && 100 * coarse <= c[0] * c[4];
        }

        boolean canBeMade(int[] c, int fine, int coarse) {
            return fine <= bins[0] && coarse <= bins[2] && c[0] - fine - coarse <= bins[1];
        }

        int[] blend(int[] c) {
            for (int coarse = c[0]; coarse >= 0; coarse--) {
                for (int fine = 0; fine + coarse <= c[0]; fine++) {
                    if (inSieve(c, fine, coarse) && canBeMade(c, fine, coarse)) {
                        return new int[] {fine, coarse};
                    }
                }
            }
            return null;
        }

        int reason(int[] c) {
            if (bins[0] + bins[1] + bins[2] < c[0]) {
                return 1;
            }
            boolean any = false;
            boolean fineDoes = false;
            boolean coarseDoes = false;
            boolean can = false;
            for (int fine = 0; fine <= c[0]; fine++) {
                if (100 * fine < c[0] * c[1] || 100 * fine > c[0] * c[2]) {
                    continue;
                }
                for (int coarse = 0; fine + coarse <= c[0]; coarse++) {
                    if (inSieve(c, fine, coarse)) {
                        any = true;
                        fineDoes |= fine <= bins[0];
                        coarseDoes |= coarse <= bins[2];
                        can |= canBeMade(c, fine, coarse);
                    }
                }
            }
            return !any ? 2 : !fineDoes ? 3 : !coarseDoes ? 4 : !can ? 5 : 0;
        }
    }

    private static final class Model {
        private static final String NUMBER = "(0|[1-9][0-9]{0,3})";
        private static final String ORDER = "(f" + NUMBER + "\\*[1-9]\\+" + NUMBER + "|c" + NUMBER + ":" + NUMBER + "-" + NUMBER + "/"
            + NUMBER + "-" + NUMBER + "\\$" + NUMBER + "|g[1-9]|d" + NUMBER + "|m|x" + NUMBER + ")";
        private static final Pattern TEXT = Pattern.compile(ORDER + "(;" + ORDER + ")*");

        State state = new State();
        String pad = "";
        List<State> history = new ArrayList<>();
        State[] slots = new State[2];

        private static boolean in(int value, int least, int most) {
            return least <= value && value <= most;
        }

        private void record(State before) {
            history.add(before);
            if (history.size() > 6) {
                history.remove(0);
            }
        }

        private int changed(State before, int answer) {
            if (answer >= 0) {
                record(before);
            }
            return answer;
        }

        int set(int setting, int value) {
            return changed(state.copy(), justSet(setting, value));
        }

        private int justSet(int setting, int value) {
            int[][] ranges = {{0, 20}, {1, 40}, {1, 24}, {1, 9}, {1, 200}, {0, 99}};
            if (!in(setting, 0, 5) || !in(value, ranges[setting][0], ranges[setting][1])) {
                return -2;
            }
            if (setting == 0 && !state.canHaveTrucks(value)) {
                return -5;
            }
            int previous = state.settings[setting];
            state.settings[setting] = value;
            return previous;
        }

        int face(int tonnes, int hardness, int way) {
            return changed(state.copy(), justFace(tonnes, hardness, way));
        }

        private int justFace(int tonnes, int hardness, int way) {
            if (!in(tonnes, 1, 9999) || !in(hardness, 1, 9) || !in(way, 1, 12)) {
                return -2;
            }
            if (state.faces.size() == 8) {
                return -4;
            }
            Face face = new Face();
            face.tonnes = tonnes;
            face.left = tonnes;
            face.hardness = hardness;
            face.way = way;
            state.faces.add(face);
            return state.faces.size() - 1;
        }

        int contract(int... terms) {
            return changed(state.copy(), justContract(terms));
        }

        private int justContract(int... t) {
            if (!in(t[0], 1, 500) || !in(t[1], 0, 100) || !in(t[2], t[1], 100) || !in(t[3], 0, 100) || !in(t[4], t[3], 100) || !in(t[5], 0, 99)) {
                return -2;
            }
            if (state.contracts.size() == 12) {
                return -4;
            }
            state.contracts.add(t.clone());
            return state.contracts.size() - 1;
        }

        int drop(int contract) {
            return changed(state.copy(), justDrop(contract));
        }

        private int justDrop(int contract) {
            if (!in(contract, 0, state.contracts.size() - 1)) {
                return -1;
            }
            state.contracts.remove(contract);
            return state.contracts.size();
        }

        int mend() {
            return changed(state.copy(), justMend());
        }

        private int justMend() {
            int wear = state.wear;
            state.wear = 0;
            return wear;
        }

        int pass(int days) {
            return changed(state.copy(), justPass(days));
        }

        private int justPass(int days) {
            if (!in(days, 1, 30)) {
                return -2;
            }
            if (state.hours + days * state.settings[2] > 9999) {
                return -5;
            }
            int before = state.delivered;
            state.days(days);
            return state.delivered - before;
        }

        int ofFace(int face, int what) {
            if (!in(face, 0, state.faces.size() - 1)) {
                return -1;
            }
            if (!in(what, 0, 4)) {
                return -2;
            }
            Face f = state.faces.get(face);
            int away = 0;
            for (Truck truck : state.trucks) {
                away += truck.from == f ? 1 : 0;
            }
            return new int[] {f.left, f.hardness, f.way, away, f.tonnes - f.left}[what];
        }

        int truck(int truck, int what) {
            if (!in(truck, 0, state.settings[0] - 1)) {
                return -1;
            }
            if (!in(what, 0, 3)) {
                return -2;
            }
            Truck t = state.trucks.get(truck);
            if (t.from == null && what < 3) {
                return -6;
            }
            return new int[] {t.face, t.load, t.back, t.sent}[what];
        }

        int ofContract(int contract, int what) {
            if (!in(contract, 0, state.contracts.size() - 1)) {
                return -1;
            }
            if (!in(what, 0, 8)) {
                return -2;
            }
            int[] c = state.contracts.get(contract);
            if (what < 6) {
                return c[what];
            }
            int reason = state.reason(c);
            if (what == 6) {
                return reason;
            }
            return reason == 0 ? state.blend(c)[what - 7] : -6;
        }

        int bin(int bin) {
            return in(bin, 0, 2) ? state.bins[bin] : -1;
        }

        int waiting(int hardness) {
            return in(hardness, 1, 9) ? state.front[hardness] : -1;
        }

        int count(int what) {
            if (!in(what, 0, 18)) {
                return -2;
            }
            int front = 0;
            for (int tonnes : state.front) {
                front += tonnes;
            }
            int[] s = state.settings;
            return new int[] {state.hours, state.faces.size(), state.contracts.size(), state.away(), front, state.crushed, state.wear,
                state.inAnHour(), state.delivered, state.paid, state.costs, s[0], s[1], s[2], s[3], s[4], s[5], pad.length(),
                history.size()}[what];
        }

        int then(int days, int what) {
            if (!in(days, 1, 30) || !in(what, 0, 1)) {
                return -2;
            }
            State later = state.copy();
            later.days(days);
            int paid = later.paid - state.paid;
            return what == 0 ? later.delivered - state.delivered : paid - (later.costs - state.costs) + 1000000;
        }

        int bestGap(int days, int what) {
            if (!in(days, 1, 30) || !in(what, 0, 1)) {
                return -2;
            }
            int[] paid = new int[10];
            int most = 0;
            for (int gap = 1; gap <= 9; gap++) {
                State later = state.copy();
                later.settings[3] = gap;
                later.days(days);
                paid[gap] = later.paid - state.paid;
                most = Math.max(most, paid[gap]);
            }
            for (int gap = 1; gap <= 9; gap++) {
                if (paid[gap] == most) {
                    return what == 0 ? gap : most;
                }
            }
            throw new IllegalStateException();
        }

        int leastTrucks(int days, int contracts) {
            if (!in(days, 1, 30) || contracts < 0) {
                return -2;
            }
            for (int trucks = 0; trucks <= 20; trucks++) {
                if (state.canHaveTrucks(trucks)) {
                    State later = state.copy();
                    later.settings[0] = trucks;
                    later.days(days);
                    if (later.delivered - state.delivered >= contracts) {
                        return trucks;
                    }
                }
            }
            return -6;
        }

        int put(long characters) {
            StringBuilder more = new StringBuilder();
            boolean ended = false;
            for (int i = 0; i < 8; i++) {
                int code = (int) (characters >> 8 * i & 255);
                if (code == 0) {
                    ended = true;
                } else if (ended || code < 33 || code > 126) {
                    return -2;
                } else {
                    more.insert(0, (char) code);
                }
            }
            if (more.length() == 0) {
                return -2;
            }
            if (pad.length() + more.length() > 80) {
                return -4;
            }
            pad += more;
            return pad.length();
        }

        int wipe() {
            int length = pad.length();
            pad = "";
            return length;
        }

        /** A beginning can stand if a matcher that fails on it fails only for want of more. */
        int fault() {
            for (int length = 1; length <= pad.length(); length++) {
                Matcher matcher = TEXT.matcher(pad.substring(0, length));
                if (!matcher.matches() && !matcher.hitEnd()) {
                    return length - 1;
                }
            }
            return TEXT.matcher(pad).matches() ? -6 : pad.length();
        }

        int carryOut() {
            if (fault() != -6) {
                return -3;
            }
            State before = state.copy();
            int done = 0;
            for (String order : pad.split(";")) {
                if (justObey(order) < 0) {
                    break;
                }
                done++;
            }
            pad = "";
            record(before);
            return done;
        }

        private int justObey(String order) {
            String[] parts = order.substring(1).split("[^0-9]");
            int[] n = new int[parts.length];
            for (int i = 0; i < n.length; i++) {
                n[i] = parts[i].isEmpty() ? 0 : Integer.parseInt(parts[i]);
            }
            switch (order.charAt(0)) {
                case 'f': return justFace(n[0], n[1], n[2]);
                case 'c': return justContract(n);
                case 'g': return justSet(3, n[0]);
                case 'd': return justPass(n[0]);
                case 'm': return justMend();
                default: return justDrop(n[0]);
            }
        }

        int undo() {
            if (history.isEmpty()) {
                return -5;
            }
            state = history.remove(history.size() - 1);
            return history.size();
        }

        int save(int slot) {
            if (!in(slot, 0, 1)) {
                return -2;
            }
            slots[slot] = state.copy();
            return state.faces.size();
        }

        int restore(int slot) {
            if (!in(slot, 0, 1)) {
                return -2;
            }
            if (slots[slot] == null) {
                return -5;
            }
            record(state);
            state = slots[slot].copy();
            return state.faces.size();
        }
    }
}
