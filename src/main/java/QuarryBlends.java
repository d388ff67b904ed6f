import java.util.Arrays;

/** A quarry whose stone is hauled, crushed, blended and sold by sieves. */
public final class QuarryBlends {
    public static final int NO_SUCH = -1, BAD_VALUE = -2, BAD_TEXT = -3, TOO_MANY = -4, NOT_POSSIBLE = -5, NONE = -6;
    public static final int TRUCKS = 0, LOAD = 1, HOURS = 2, GAP = 3, CRUSH = 4, COST = 5;

    private static final int SETTING_COUNT = 6;
    private static final int[] FIRST_SETTINGS = {3, 20, 8, 5, 50, 2};
    private static final int[] LEAST_SETTINGS = {0, 1, 1, 1, 1, 0};
    private static final int[] MOST_SETTINGS = {20, 40, 24, 9, 200, 99};

    private static final int FACE_LIMIT = 8, MOST_FACE_TONNES = 9999, HARDEST = 9, LONGEST_WAY = 12;
    private static final int TRUCK_LIMIT = 20;
    private static final int GAP_LEAST = 1, GAP_MOST = 9;
    private static final int FINE = 0, MIDDLE = 1, COARSE = 2, BIN_COUNT = 3;
    private static final int CONTRACT_LIMIT = 12, MOST_CONTRACT_TONNES = 500, MOST_PRICE = 99;
    private static final int TONNES = 0, LEAST_FINE = 1, MOST_FINE = 2, LEAST_COARSE = 3, MOST_COARSE = 4, PRICE = 5;
    private static final int TERM_COUNT = 6;
    private static final int DAYS_LIMIT = 30, HOURS_LIMIT = 9999;
    private static final int PAD_LIMIT = 80, CHARACTERS_IN_A_LONG = 8, NUMBERS_IN_AN_ORDER = 6;
    private static final int HISTORY_LIMIT = 6, SLOT_COUNT = 2;
    private static final int NEITHER_GAIN_NOR_LOSS = 1000000;

    private static final String ORDER_LETTERS = "fcgdmx";
    private static final int FACE_ORDER = 0, CONTRACT_ORDER = 1, GAP_ORDER = 2, DAYS_ORDER = 3, MEND_ORDER = 4, DROP_ORDER = 5;

    private final Quarry now;
    private final Quarry trial;
    private final History history;
    private final Slots slots;
    private final Pad pad;

    public QuarryBlends() {
        now = new Quarry();
        trial = new Quarry();
        history = new History();
        slots = new Slots();
        pad = new Pad();
    }

    // ---- changes

    public int set(int setting, int value) {
        history.prepare(now);
        return recorded(now.changeSetting(setting, value));
    }

    public int face(int tonnes, int hardness, int way) {
        history.prepare(now);
        return recorded(now.faces.add(tonnes, hardness, way));
    }

    public int contract(int tonnes, int leastFine, int mostFine, int leastCoarse, int mostCoarse, int price) {
        history.prepare(now);
        return recorded(now.contracts.add(tonnes, leastFine, mostFine, leastCoarse, mostCoarse, price));
    }

    public int drop(int contract) {
        history.prepare(now);
        return recorded(now.contracts.dropOne(contract));
    }

    public int mend() {
        history.prepare(now);
        return recorded(now.crusher.becomeAsNew());
    }

    public int pass(int days) {
        history.prepare(now);
        return recorded(now.passDays(days));
    }

    // ---- what there is

    public int ofFace(int face, int what) {
        Faces faces = now.faces;
        if (!faces.has(face)) {
            return NO_SUCH;
        }
        switch (what) {
            case 0: return faces.left[face];
            case 1: return faces.hardness[face];
            case 2: return faces.way[face];
            case 3: return now.trucks.awayFrom(face);
            case 4: return faces.taken[face];
            default: return BAD_VALUE;
        }
    }

    public int truck(int truck, int what) {
        if (!within(truck, 0, now.settings[TRUCKS] - 1) || !within(truck, 0, TRUCK_LIMIT - 1)) {
            return NO_SUCH;
        }
        Trucks trucks = now.trucks;
        boolean away = trucks.isAway(truck);
        switch (what) {
            case 0: return away ? trucks.from[truck] : NONE;
            case 1: return away ? trucks.load[truck] : NONE;
            case 2: return away ? trucks.back[truck] : NONE;
            case 3: return trucks.sent[truck];
            default: return BAD_VALUE;
        }
    }

    public int ofContract(int contract, int what) {
        Contracts contracts = now.contracts;
        if (!contracts.has(contract)) {
            return NO_SUCH;
        }
        if (within(what, 0, TERM_COUNT - 1)) {
            return contracts.term(contract, what);
        }
        Blend blend = now.blend;
        blend.workOut(contracts, contract, now.crusher.bins);
        switch (what) {
            case 6: return blend.reason;
            case 7: return blend.reason == 0 ? blend.fine : NONE;
            case 8: return blend.reason == 0 ? blend.coarse : NONE;
            default: return BAD_VALUE;
        }
    }

    public int bin(int bin) {
        return within(bin, 0, BIN_COUNT - 1) ? now.crusher.bins[bin] : NO_SUCH;
    }

    public int waiting(int hardness) {
        return within(hardness, 1, HARDEST) ? now.crusher.uncrushed[hardness] : NO_SUCH;
    }

    public int count(int what) {
        if (within(what, 11, 10 + SETTING_COUNT)) {
            return now.settings[what - 11];
        }
        switch (what) {
            case 0: return now.hours;
            case 1: return now.faces.amount;
            case 2: return now.contracts.amount;
            case 3: return now.trucks.awayInAll();
            case 4: return now.crusher.uncrushedInAll();
            case 5: return now.crusher.crushed;
            case 6: return now.crusher.wear;
            case 7: return now.crusher.tonnesInAnHour(now.settings[CRUSH]);
            case 8: return now.delivered;
            case 9: return now.paid;
            case 10: return now.costs;
            case 17: return pad.length;
            case 18: return history.amount;
            default: return BAD_VALUE;
        }
    }

    // ---- what if; nothing changes (the bound of hours does not matter)

    public int then(int days, int what) {
        if (!within(days, 1, DAYS_LIMIT) || !within(what, 0, 1)) {
            return BAD_VALUE;
        }
        trial.copyFrom(now);
        int deliveries = trial.runDays(days, false);
        if (what == 0) {
            return deliveries;
        }
        return trial.paid - now.paid - (trial.costs - now.costs) + NEITHER_GAIN_NOR_LOSS;
    }

    public int bestGap(int days, int what) {
        if (!within(days, 1, DAYS_LIMIT) || !within(what, 0, 1)) {
            return BAD_VALUE;
        }
        int best = GAP_LEAST;
        int mostPaid = -1;
        for (int gap = GAP_LEAST; gap <= GAP_MOST; gap++) {
            trial.copyFrom(now);
            trial.settings[GAP] = gap;
            trial.runDays(days, true);
            if (trial.paid - now.paid > mostPaid) {
                mostPaid = trial.paid - now.paid;
                best = gap;
            }
        }
        return what == 0 ? best : mostPaid;
    }

    public int leastTrucks(int days, int contracts) {
        if (!within(days, 1, DAYS_LIMIT) || contracts < 0) {
            return BAD_VALUE;
        }
        if (contracts > now.contracts.amount) {
            return NONE;
        }
        for (int trucks = now.trucks.leastSetting(); trucks <= TRUCK_LIMIT; trucks++) {
            trial.copyFrom(now);
            trial.settings[TRUCKS] = trucks;
            if (trial.runDays(days, true) >= contracts) {
                return trucks;
            }
        }
        return NONE;
    }

    // ---- texts

    public int put(long characters) {
        int amount = Pad.charactersIn(characters);
        if (amount == 0) {
            return BAD_VALUE;
        }
        if (pad.length + amount > PAD_LIMIT) {
            return TOO_MANY;
        }
        pad.append(characters, amount);
        return pad.length;
    }

    public int wipe() {
        int length = pad.length;
        pad.length = 0;
        return length;
    }

    public int fault() {
        return pad.firstFault();
    }

    public int carryOut() {
        if (pad.firstFault() != NONE) {
            return BAD_TEXT;
        }
        history.prepare(now);
        int done = 0;
        pad.startReading();
        // an order takes a character at least, so the pad has no more orders than characters
        while (done < PAD_LIMIT && pad.readNextOrder() && obey() >= 0) {
            done++;
        }
        pad.length = 0;
        return recorded(done);
    }

    // ---- undo, saving

    public int undo() {
        if (history.amount == 0) {
            return NOT_POSSIBLE;
        }
        history.takeLatest(now);
        return history.amount;
    }

    public int save(int slot) {
        if (!slots.has(slot)) {
            return BAD_VALUE;
        }
        slots.fill(slot, now);
        return now.faces.amount;
    }

    public int restore(int slot) {
        if (!slots.has(slot)) {
            return BAD_VALUE;
        }
        if (!slots.filled[slot]) {
            return NOT_POSSIBLE;
        }
        history.prepare(now);
        now.copyFrom(slots.states[slot]);
        return recorded(now.faces.amount);
    }

    /** Keeps the prepared state in the history, unless the answer of the change is an error. */
    private int recorded(int answer) {
        if (answer >= 0) {
            history.keepPrepared();
        }
        return answer;
    }

    /** Carries out the order that the pad has read, and returns what the call for it would return. */
    private int obey() {
        int[] n = pad.numbers;
        switch (pad.order) {
            case FACE_ORDER: return now.faces.add(n[0], n[1], n[2]);
            case CONTRACT_ORDER: return now.contracts.add(n[0], n[1], n[2], n[3], n[4], n[5]);
            case GAP_ORDER: return now.changeSetting(GAP, n[0]);
            case DAYS_ORDER: return now.passDays(n[0]);
            case MEND_ORDER: return now.crusher.becomeAsNew();
            case DROP_ORDER: return now.contracts.dropOne(n[0]);
            default: return BAD_TEXT;
        }
    }

    private static boolean within(int value, int least, int most) {
        return value >= least && value <= most;
    }

    private static void copyAll(int[] source, int[] target) {
        System.arraycopy(source, 0, target, 0, Math.min(source.length, target.length));
    }

    /** Everything that undo and the slots bring back. */
    private static final class Quarry {
        final int[] settings = FIRST_SETTINGS.clone();
        final Faces faces = new Faces();
        final Trucks trucks = new Trucks();
        final Crusher crusher = new Crusher();
        final Contracts contracts = new Contracts();
        // no part of the state: it's worked out anew for each question
        final Blend blend = new Blend();
        int hours;
        int delivered;
        int paid;
        int costs;

        void copyFrom(Quarry other) {
            copyAll(other.settings, settings);
            faces.copyFrom(other.faces);
            trucks.copyFrom(other.trucks);
            crusher.copyFrom(other.crusher);
            contracts.copyFrom(other.contracts);
            hours = other.hours;
            delivered = other.delivered;
            paid = other.paid;
            costs = other.costs;
        }

        int changeSetting(int setting, int value) {
            if (!within(setting, 0, SETTING_COUNT - 1)) {
                return BAD_VALUE;
            }
            if (!within(value, LEAST_SETTINGS[setting], MOST_SETTINGS[setting])) {
                return BAD_VALUE;
            }
            if (setting == TRUCKS && value < trucks.leastSetting()) {
                return NOT_POSSIBLE;
            }
            int previous = settings[setting];
            settings[setting] = value;
            return previous;
        }

        int passDays(int days) {
            if (!within(days, 1, DAYS_LIMIT)) {
                return BAD_VALUE;
            }
            if (hours + days * settings[HOURS] > HOURS_LIMIT) {
                return NOT_POSSIBLE;
            }
            return runDays(days, false);
        }

        /** Returns how many contracts are delivered; one who asks for nothing else may let the days end with the contracts. */
        int runDays(int days, boolean endWithContracts) {
            int before = delivered;
            for (int day = 0; day < days && !(endWithContracts && contracts.amount == 0); day++) {
                int hoursOfDay = settings[HOURS];
                for (int hour = 0; hour < hoursOfDay; hour++) {
                    bringLoads();
                    sendTrucks();
                    crusher.crushForAnHour(settings[GAP], settings[CRUSH]);
                    hours++;
                }
                deliver();
            }
            return delivered - before;
        }

        void bringLoads() {
            for (int truck = 0; truck < TRUCK_LIMIT; truck++) {
                int face = trucks.from[truck];
                if (trucks.back[truck] == hours && faces.has(face)) {
                    crusher.bring(trucks.load[truck], faces.hardness[face]);
                    trucks.from[truck] = NONE;
                }
            }
        }

        void sendTrucks() {
            int amount = Math.min(settings[TRUCKS], TRUCK_LIMIT);
            for (int truck = 0; truck < amount; truck++) {
                if (!trucks.isAway(truck)) {
                    int face = faces.fullest();
                    if (!faces.has(face)) {
                        return;
                    }
                    int way = faces.way[face];
                    trucks.send(truck, face, faces.take(face, settings[LOAD]), hours + way);
                    costs += settings[COST] * way;
                }
            }
        }

        void deliver() {
            int contract = 0;
            // a delivered contract leaves its number to the one behind it, so only a refused one is stepped over
            for (int looks = 0; looks < CONTRACT_LIMIT && contract < contracts.amount; looks++) {
                blend.workOut(contracts, contract, crusher.bins);
                if (blend.reason != 0) {
                    contract++;
                } else {
                    paid += blend.tonnes * contracts.term(contract, PRICE);
                    delivered++;
                    crusher.takeOut(blend);
                    contracts.dropOne(contract);
                }
            }
        }
    }

    private static final class Faces {
        final int[] left = new int[FACE_LIMIT];
        final int[] taken = new int[FACE_LIMIT];
        final int[] hardness = new int[FACE_LIMIT];
        final int[] way = new int[FACE_LIMIT];
        int amount;

        void copyFrom(Faces other) {
            copyAll(other.left, left);
            copyAll(other.taken, taken);
            copyAll(other.hardness, hardness);
            copyAll(other.way, way);
            amount = other.amount;
        }

        boolean has(int face) {
            return face >= 0 && face < amount && face < FACE_LIMIT;
        }

        int add(int tonnes, int itsHardness, int itsWay) {
            if (!within(tonnes, 1, MOST_FACE_TONNES) || !within(itsHardness, 1, HARDEST) || !within(itsWay, 1, LONGEST_WAY)) {
                return BAD_VALUE;
            }
            int face = amount;
            if (!within(face, 0, FACE_LIMIT - 1)) {
                return TOO_MANY;
            }
            left[face] = tonnes;
            taken[face] = 0;
            hardness[face] = itsHardness;
            way[face] = itsWay;
            amount++;
            return face;
        }

        /** Returns the face to which a truck is sent, NONE if no face has stone. */
        int fullest() {
            int fullest = NONE;
            int most = 0;
            for (int face = 0; face < amount && face < FACE_LIMIT; face++) {
                if (left[face] > most) {
                    most = left[face];
                    fullest = face;
                }
            }
            return fullest;
        }

        int take(int face, int most) {
            if (!has(face)) {
                return 0;
            }
            int tonnes = Math.min(most, left[face]);
            left[face] -= tonnes;
            taken[face] += tonnes;
            return tonnes;
        }
    }

    /** Has all the trucks that a setting allows, because one that comes again was sent as often as before. */
    private static final class Trucks {
        final int[] from = new int[TRUCK_LIMIT];
        final int[] load = new int[TRUCK_LIMIT];
        final int[] back = new int[TRUCK_LIMIT];
        final int[] sent = new int[TRUCK_LIMIT];

        Trucks() {
            Arrays.fill(from, NONE);
        }

        void copyFrom(Trucks other) {
            copyAll(other.from, from);
            copyAll(other.load, load);
            copyAll(other.back, back);
            copyAll(other.sent, sent);
        }

        boolean isAway(int truck) {
            return within(truck, 0, TRUCK_LIMIT - 1) && from[truck] != NONE;
        }

        void send(int truck, int face, int tonnes, int hourBack) {
            if (within(truck, 0, TRUCK_LIMIT - 1)) {
                from[truck] = face;
                load[truck] = tonnes;
                back[truck] = hourBack;
                sent[truck]++;
            }
        }

        int awayFrom(int face) {
            int amount = 0;
            for (int truck = 0; truck < TRUCK_LIMIT; truck++) {
                if (from[truck] == face) {
                    amount++;
                }
            }
            return amount;
        }

        int awayInAll() {
            return TRUCK_LIMIT - awayFrom(NONE);
        }

        /** Returns the least TRUCKS that leave no truck on its way without a number. */
        int leastSetting() {
            int least = 0;
            for (int truck = 0; truck < TRUCK_LIMIT; truck++) {
                if (from[truck] != NONE) {
                    least = truck + 1;
                }
            }
            return least;
        }
    }

    /** The crusher with the stone in front of it, by hardness, and the bins behind it. */
    private static final class Crusher {
        final int[] uncrushed = new int[HARDEST + 1];
        final int[] bins = new int[BIN_COUNT];
        int wear;
        int crushed;

        void copyFrom(Crusher other) {
            copyAll(other.uncrushed, uncrushed);
            copyAll(other.bins, bins);
            wear = other.wear;
            crushed = other.crushed;
        }

        void bring(int tonnes, int hardness) {
            if (within(hardness, 1, HARDEST)) {
                uncrushed[hardness] += tonnes;
            }
        }

        int uncrushedInAll() {
            int tonnes = 0;
            for (int hardness = 1; hardness <= HARDEST; hardness++) {
                tonnes += uncrushed[hardness];
            }
            return tonnes;
        }

        int tonnesInAnHour(int whenNew) {
            return Math.max(1, whenNew - wear / 1000);
        }

        int becomeAsNew() {
            int before = wear;
            wear = 0;
            return before;
        }

        void crushForAnHour(int gap, int whenNew) {
            // asked once, as the wear of this hour does not slow this hour
            int rest = tonnesInAnHour(whenNew);
            for (int hardness = 1; hardness <= HARDEST && rest > 0; hardness++) {
                int tonnes = Math.min(rest, uncrushed[hardness]);
                rest -= tonnes;
                crush(tonnes, hardness, gap);
            }
        }

        void crush(int tonnes, int hardness, int gap) {
            if (!within(hardness, 1, HARDEST)) {
                return;
            }
            int fine = tonnes * (10 - gap) * (10 - hardness) / 100;
            int coarse = tonnes * gap * hardness / 100;
            uncrushed[hardness] -= tonnes;
            bins[FINE] += fine;
            bins[MIDDLE] += tonnes - fine - coarse;
            bins[COARSE] += coarse;
            wear += tonnes * hardness;
            crushed += tonnes;
        }

        void takeOut(Blend blend) {
            bins[FINE] -= blend.fine;
            bins[MIDDLE] -= blend.tonnes - blend.fine - blend.coarse;
            bins[COARSE] -= blend.coarse;
        }
    }

    /** The contracts, each a row of terms in one array, so that rows move up at once. */
    private static final class Contracts {
        final int[] terms = new int[CONTRACT_LIMIT * TERM_COUNT];
        int amount;

        void copyFrom(Contracts other) {
            copyAll(other.terms, terms);
            amount = other.amount;
        }

        boolean has(int contract) {
            return contract >= 0 && contract < amount && contract < CONTRACT_LIMIT;
        }

        int term(int contract, int term) {
            if (!has(contract) || !within(term, 0, TERM_COUNT - 1)) {
                return 0;
            }
            return terms[contract * TERM_COUNT + term];
        }

        int add(int tonnes, int leastFine, int mostFine, int leastCoarse, int mostCoarse, int price) {
            if (!within(tonnes, 1, MOST_CONTRACT_TONNES) || !within(price, 0, MOST_PRICE)
                    || !areHundredths(leastFine, mostFine) || !areHundredths(leastCoarse, mostCoarse)) {
                return BAD_VALUE;
            }
            int contract = amount;
            if (!within(contract, 0, CONTRACT_LIMIT - 1)) {
                return TOO_MANY;
            }
            int row = contract * TERM_COUNT;
            terms[row + TONNES] = tonnes;
            terms[row + LEAST_FINE] = leastFine;
            terms[row + MOST_FINE] = mostFine;
            terms[row + LEAST_COARSE] = leastCoarse;
            terms[row + MOST_COARSE] = mostCoarse;
            terms[row + PRICE] = price;
            amount++;
            return contract;
        }

        static boolean areHundredths(int least, int most) {
            return within(least, 0, 100) && within(most, least, 100);
        }

        int dropOne(int contract) {
            if (!has(contract)) {
                return NO_SUCH;
            }
            int row = contract * TERM_COUNT;
            int behind = (Math.min(amount, CONTRACT_LIMIT) - 1 - contract) * TERM_COUNT;
            if (behind > 0) {
                System.arraycopy(terms, row + TERM_COUNT, terms, row, behind);
            }
            amount--;
            return amount;
        }
    }

    /** The blend of a contract by rule, and the reason against it; only if that is 0, the blend can be made. */
    private static final class Blend {
        int tonnes;
        int leastFine;
        int mostFine;
        int leastCoarse;
        int mostCoarse;
        int fine;
        int coarse;
        int reason;

        void workOut(Contracts contracts, int contract, int[] bins) {
            tonnes = contracts.term(contract, TONNES);
            // the least ones are rounded up, as a part of a tonne that has to be there asks for a whole one
            leastFine = (tonnes * contracts.term(contract, LEAST_FINE) + 99) / 100;
            mostFine = tonnes * contracts.term(contract, MOST_FINE) / 100;
            leastCoarse = (tonnes * contracts.term(contract, LEAST_COARSE) + 99) / 100;
            mostCoarse = tonnes * contracts.term(contract, MOST_COARSE) / 100;
            coarse = Math.min(Math.min(mostCoarse, bins[COARSE]), tonnes - leastFine);
            fine = Math.max(leastFine, tonnes - coarse - bins[MIDDLE]);
            reason = reasonAgainst(bins);
        }

        int reasonAgainst(int[] bins) {
            if (bins[FINE] + bins[MIDDLE] + bins[COARSE] < tonnes) {
                return 1;
            }
            if (leastFine > mostFine || leastCoarse > mostCoarse || leastFine + leastCoarse > tonnes) {
                return 2;
            }
            if (bins[FINE] < leastFine) {
                return 3;
            }
            if (bins[COARSE] < leastCoarse) {
                return 4;
            }
            // the most coarse stone leaves the least to the other bins, so if that blend can't be made, none can
            return fine > mostFine || fine > bins[FINE] ? 5 : 0;
        }
    }

    /** The states ahead of the latest changes, in a ring. */
    private static final class History {
        // one more than can be undone: a call that turns out to be an error must not cost the oldest state
        static final int RING = HISTORY_LIMIT + 1;
        final Quarry[] states = new Quarry[RING];
        int prepared;
        int amount;

        History() {
            for (int place = 0; place < RING; place++) {
                states[place] = new Quarry();
            }
        }

        void prepare(Quarry quarry) {
            if (within(prepared, 0, RING - 1)) {
                states[prepared].copyFrom(quarry);
            }
        }

        void keepPrepared() {
            prepared = (prepared + 1) % RING;
            amount = Math.min(amount + 1, HISTORY_LIMIT);
        }

        void takeLatest(Quarry target) {
            prepared = (prepared + RING - 1) % RING;
            amount--;
            if (within(prepared, 0, RING - 1)) {
                target.copyFrom(states[prepared]);
            }
        }
    }

    private static final class Slots {
        final Quarry[] states = new Quarry[SLOT_COUNT];
        final boolean[] filled = new boolean[SLOT_COUNT];

        Slots() {
            for (int slot = 0; slot < SLOT_COUNT; slot++) {
                states[slot] = new Quarry();
            }
        }

        boolean has(int slot) {
            return within(slot, 0, SLOT_COUNT - 1);
        }

        void fill(int slot, Quarry quarry) {
            if (has(slot)) {
                states[slot].copyFrom(quarry);
                filled[slot] = true;
            }
        }
    }

    /** The text, and a reader that goes through it from left to right. */
    private static final class Pad {
        final char[] characters = new char[PAD_LIMIT];
        int length;
        // where the reader is; where it gave up, if it did
        int place;
        int order;
        final int[] numbers = new int[NUMBERS_IN_AN_ORDER];
        int numbersRead;

        /** Returns how many characters a number gives, 0 if it gives none or a wrong one. */
        static int charactersIn(long packed) {
            int amount = 0;
            long rest = packed;
            while (amount < CHARACTERS_IN_A_LONG && rest != 0) {
                // 8 bits that are 0 below others are a wrong code as well
                if (!within((int) (rest & 255), 33, 126)) {
                    return 0;
                }
                rest >>>= 8;
                amount++;
            }
            return amount;
        }

        void append(long packed, int amount) {
            for (int above = amount - 1; above >= 0 && within(length, 0, PAD_LIMIT - 1); above--) {
                characters[length] = (char) ((packed >>> (8 * above)) & 255);
                length++;
            }
        }

        int firstFault() {
            startReading();
            boolean whole = readOrder();
            for (int orders = 1; orders < PAD_LIMIT && whole && place < length; orders++) {
                whole = readNextOrder();
            }
            return whole ? NONE : place;
        }

        void startReading() {
            place = 0;
        }

        /** Reads the next order, with the sign ahead of it that parts it from the one before. */
        boolean readNextOrder() {
            return (place == 0 || readSign(';')) && readOrder();
        }

        boolean readOrder() {
            order = ORDER_LETTERS.indexOf(sign());
            numbersRead = 0;
            if (order < 0) {
                return false;
            }
            place++;
            String shape = shapeOf(order);
            boolean whole = true;
            for (int part = 0; part < shape.length() && whole; part++) {
                whole = readPart(shape.charAt(part));
            }
            return whole;
        }

        /** Returns what comes behind the letter of an order: n a number, 1 a digit, and signs. */
        static String shapeOf(int order) {
            switch (order) {
                case FACE_ORDER: return "n*1+n";
                case CONTRACT_ORDER: return "n:n-n/n-n$n";
                case GAP_ORDER: return "1";
                case MEND_ORDER: return "";
                default: return "n";
            }
        }

        boolean readPart(char part) {
            if (part == 'n') {
                return readNumber();
            }
            if (part == '1') {
                return readDigit();
            }
            return readSign(part);
        }

        /** Returns the character at the reader's place, 0 behind the end. */
        char sign() {
            return place >= 0 && place < length && place < PAD_LIMIT ? characters[place] : 0;
        }

        boolean readSign(char due) {
            if (sign() != due) {
                return false;
            }
            place++;
            return true;
        }

        boolean readDigit() {
            if (!within(sign(), '1', '9')) {
                return false;
            }
            keepNumber(sign() - '0');
            place++;
            return true;
        }

        boolean readNumber() {
            if (!within(sign(), '0', '9')) {
                return false;
            }
            int value = sign() - '0';
            place++;
            // a digit that may not follow is left there: no part begins with a digit behind a number, so it's the fault
            while (place < length && within(value, 1, 999) && within(sign(), '0', '9')) {
                value = value * 10 + sign() - '0';
                place++;
            }
            keepNumber(value);
            return true;
        }

        void keepNumber(int value) {
            if (numbersRead >= 0 && numbersRead < NUMBERS_IN_AN_ORDER) {
                numbers[numbersRead] = value;
                numbersRead++;
            }
        }
    }
}
