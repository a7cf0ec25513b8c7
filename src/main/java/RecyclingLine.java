import java.util.Arrays;

/** A recycling sorting line; what it promises stands in DOC.md. */
public final class RecyclingLine {
    /** Returned when there is no such value. */
    public static final int NONE = -1;

    private static final int MAX_TEXT = 700;
    private static final int MAX_MATERIALS = 6;
    private static final int MAX_STATIONS = 8;
    private static final int MAX_PICKERS = 9;
    private static final int MAX_TIREDNESS = 60;
    private static final int MAX_PARCELS = 30;
    private static final int MAX_LOAD = 999;
    private static final int MAX_BALES = 40;
    private static final int MAX_BUYERS = 4;
    private static final int MAX_NAME = 6;
    private static final int MAX_CHANGES = 6;
    private static final int MAX_TICKS = 9999;
    private static final int MAX_RUN = 200;
    private static final int MAX_TRIAL = 100;
    private static final int MAX_WAIT = 400;

    private static final int FEED = 0;
    private static final int BALE = 1;
    private static final int LIMIT_A = 2;
    private static final int LIMIT_B = 3;
    private static final int LOOP = 4;
    private static final int ROUNDS = 5;
    private static final int TIRING = 6;
    private static final int CLAIM = 7;
    private static final int SETTINGS = 8;
    private static final int[] LEAST_VALUES = {1, 20, 0, 0, 0, 0, 0, 0};
    private static final int[] GREATEST_VALUES = {200, 500, 100, 100, 100, 5, 5, 20};
    private static final int[] FIRST_VALUES = {50, 100, 95, 85, 20, 2, 1, 2};

    private static final int FIRST_SLOT_PLACE = 8;
    private static final int FIRST_PARCEL_PLACE = 16;
    private static final int RESIDUE_PLACE = 46;

    private final byte[] input = new byte[MAX_TEXT];
    private int inputLength;
    private Line line = new Line();
    // Spare lines are made when they are first needed and used again from then on.
    private Line spare;
    private final Line[] past = new Line[MAX_CHANGES];
    private int pastSize;
    private int pastNext;

    public RecyclingLine() {
        line.materials = 1;
        line.addStation(0, 0, 1, 0);
    }

    // ---- texts

    public int append(int a, int b, int c, int d, int e) {
        if (inputLength + 20 > MAX_TEXT) {
            return NONE;
        }
        appendBytes(a);
        appendBytes(b);
        appendBytes(c);
        appendBytes(d);
        appendBytes(e);
        return inputLength;
    }

    private void appendBytes(int four) {
        for (int shift = 24; shift >= 0 && inputLength < input.length; shift -= 8) {
            input[inputLength] = (byte) (four >> shift);
            inputLength++;
        }
    }

    public boolean truncate(int length) {
        if (length < 0 || length > inputLength) {
            return false;
        }
        inputLength = length;
        return true;
    }

    public int bufferLength() {
        return inputLength;
    }

    public int read() {
        Line fresh = spareLine();
        TextReader reader = new TextReader(input, inputLength, fresh);
        inputLength = 0;
        int failure = reader.readText();
        if (failure != 0) {
            return -failure;
        }
        spare = line;
        line = fresh;
        pastSize = 0;
        return line.stationCount;
    }

    public int find() {
        int name = TextReader.nameCode(input, 0, inputLength);
        inputLength = 0;
        return line.buyerNamed(name);
    }

    // ---- what there is

    public int line(int what) {
        switch (what) {
            case 0: return line.materials;
            case 1: return line.stationCount;
            case 2: return line.buyerCount;
            case 3: return line.tally.ticks;
            case 4: return line.hopper.size;
            case 5: return line.parcelsOnBelt();
            case 6: return line.stock.size;
            case 7: return line.tally.pressed;
            case 8: return line.tally.sold;
            case 9: return line.tally.sentBack;
            case 10: return line.tally.claims;
            default: return NONE;
        }
    }

    public int setting(int what) throws IndexOutOfBoundsException {
        if (what < 0 || what >= SETTINGS) {
            throw new IndexOutOfBoundsException("no such setting");
        }
        return line.settings[what];
    }

    public int station(int station, int what) throws IndexOutOfBoundsException, IllegalArgumentException {
        Station asked = line.stationAt(station);
        if (asked == null) {
            throw new IndexOutOfBoundsException("no such station");
        }
        switch (what) {
            case 0: return asked.target;
            case 1: return asked.pickers;
            case 2: return asked.rate;
            case 3: return asked.error;
            case 4: return asked.tiredness;
            case 5: return asked.capacity();
            case 6: return asked.bunker.total;
            case 7: return asked.slot.heap.total;
            case 8: return asked.isSlotEmpty() ? NONE : asked.slot.rounds;
            case 9: return asked.pressed;
            case 10: return asked.picked;
            default: throw new IllegalArgumentException("no such property of a station");
        }
    }

    public int mass(int place, int material) throws IllegalArgumentException, IndexOutOfBoundsException {
        if (place < 0 || place > RESIDUE_PLACE) {
            throw new IllegalArgumentException("no such place");
        }
        if (!line.hasMaterial(material)) {
            throw new IndexOutOfBoundsException("no such material");
        }
        Heap heap = line.heapAt(place);
        return heap == null ? 0 : heap.of(material);
    }

    public int bale(int bale, int what) throws IndexOutOfBoundsException, IllegalArgumentException {
        Bale asked = line.stock.baleAt(bale);
        if (asked == null) {
            throw new IndexOutOfBoundsException("no such bale");
        }
        switch (what) {
            case 0: return asked.serial;
            case 1: return asked.material;
            case 2: return asked.heap.total;
            case 3: return asked.purity;
            case 4: return asked.grade;
            default: break;
        }
        if (what < 0 || !line.hasMaterial(what - 5)) {
            throw new IllegalArgumentException("no such property of a bale");
        }
        return asked.heap.of(what - 5);
    }

    public int buyer(int buyer, int what) throws IndexOutOfBoundsException, IllegalArgumentException {
        Buyer asked = line.buyerAt(buyer);
        if (asked == null) {
            throw new IndexOutOfBoundsException("no such buyer");
        }
        switch (what) {
            case 0: return asked.material;
            case 1: return asked.worstGrade;
            case 2: return asked.price;
            case 3: return asked.tolerance;
            case 4: return asked.limit;
            case 5: return asked.paid;
            default: throw new IllegalArgumentException("no such property of a buyer");
        }
    }

    public long balance(int what) {
        switch (what) {
            case 0: return line.tally.massLoaded;
            case 1: return line.hopper.totalMass();
            case 2: return line.massOnBelt();
            case 3: return line.massInBunkers();
            case 4: return line.stock.totalMass();
            case 5: return line.tally.massSold;
            case 6: return line.residue.total;
            case 7: return line.tally.massCleaned;
            default: return NONE;
        }
    }

    public double purity(int material) throws IndexOutOfBoundsException {
        if (!line.hasMaterial(material)) {
            throw new IndexOutOfBoundsException("no such material");
        }
        int all = line.balesOf.of(material);
        int own = line.ownInBales.of(material);
        return all > 0 ? (double) own / (double) all : 0.0;
    }

    public float loss() {
        int lost = line.residue.total;
        int all = lost + line.balesOf.total;
        return all > 0 ? (float) lost / (float) all : 0.0f;
    }

    // ---- changes

    public int load(int material, int mass)
            throws IndexOutOfBoundsException, IllegalArgumentException, IllegalStateException {
        if (!line.hasMaterial(material)) {
            throw new IndexOutOfBoundsException("no such material");
        }
        if (mass < 1 || mass > MAX_LOAD) {
            throw new IllegalArgumentException("mass out of range");
        }
        if (line.hopper.isFull()) {
            throw new IllegalStateException("the hopper is full");
        }
        remember();
        Parcel parcel = line.hopper.addLast(0);
        if (parcel != null) {
            parcel.heap.put(material, mass);
            line.tally.massLoaded += mass;
        }
        return line.hopper.size;
    }

    public int set(int what, int value) throws IndexOutOfBoundsException, IllegalArgumentException {
        if (what < 0 || what >= SETTINGS) {
            throw new IndexOutOfBoundsException("no such setting");
        }
        if (value < LEAST_VALUES[what] || value > GREATEST_VALUES[what]) {
            throw new IllegalArgumentException("value out of range");
        }
        remember();
        int former = line.settings[what];
        line.settings[what] = value;
        return former;
    }

    public int staff(int station, int pickers) throws IndexOutOfBoundsException, IllegalArgumentException {
        Station changed = line.stationAt(station);
        if (changed == null) {
            throw new IndexOutOfBoundsException("no such station");
        }
        if (pickers < 0 || pickers > MAX_PICKERS) {
            throw new IllegalArgumentException("pickers out of range");
        }
        remember();
        int former = changed.pickers;
        changed.relieve(pickers);
        return former;
    }

    public int run(int ticks) throws IllegalArgumentException, IllegalStateException {
        if (ticks < 1 || ticks > MAX_RUN) {
            throw new IllegalArgumentException("ticks out of range");
        }
        if (line.tally.ticks + ticks > MAX_TICKS) {
            throw new IllegalStateException("too many ticks in all");
        }
        remember();
        int before = line.tally.pressed;
        line.makeTicks(ticks);
        return line.tally.pressed - before;
    }

    public int sell(int bale, int buyer)
            throws IndexOutOfBoundsException, IllegalArgumentException, IllegalStateException {
        Bale offered = line.stock.baleAt(bale);
        Buyer client = line.buyerAt(buyer);
        if (offered == null || client == null) {
            throw new IndexOutOfBoundsException("no such bale or buyer");
        }
        if (!client.takes(offered)) {
            throw new IllegalArgumentException("the buyer does not take this bale");
        }
        if (client.sendsBack(offered) && line.hopper.isFull()) {
            throw new IllegalStateException("the hopper is full");
        }
        remember();
        line.stock.dropBale(bale);
        if (client.sendsBack(offered)) {
            line.takeBack(offered);
            return NONE;
        }
        return line.handOver(offered, client);
    }

    public int clean(int station) throws IndexOutOfBoundsException {
        Station cleaned = line.stationAt(station);
        if (cleaned == null) {
            throw new IndexOutOfBoundsException("no such station");
        }
        remember();
        int away = cleaned.bunker.total;
        cleaned.bunker.clear();
        line.tally.massCleaned += away;
        return away;
    }

    public int undo() {
        if (pastSize == 0) {
            return NONE;
        }
        pastNext = pastNext == 0 ? MAX_CHANGES - 1 : pastNext - 1;
        pastSize--;
        Line before = past[pastNext];
        if (before != null) {
            past[pastNext] = line;
            line = before;
        }
        return pastSize;
    }

    // ---- questions

    public int bestBuyer(int bale) throws IndexOutOfBoundsException {
        Bale offered = line.stock.baleAt(bale);
        if (offered == null) {
            throw new IndexOutOfBoundsException("no such bale");
        }
        int best = NONE;
        int most = NONE;
        for (int i = 0; i < line.buyerCount; i++) {
            Buyer client = line.buyers[i];
            if (client.takes(offered) && !client.sendsBack(offered)) {
                int pay = client.payFor(offered, line.settings[CLAIM]);
                if (pay > most) {
                    most = pay;
                    best = i;
                }
            }
        }
        return best;
    }

    public int outlook(int ticks, int what) throws IllegalArgumentException {
        if (ticks < 1 || ticks > MAX_RUN || what < 0 || what > 4) {
            throw new IllegalArgumentException("ticks or what out of range");
        }
        Line later = copyOfLine();
        later.makeTicks(ticks);
        switch (what) {
            case 0: return later.tally.pressed - line.tally.pressed;
            case 1: return later.tally.pressedA - line.tally.pressedA;
            case 2: return later.residue.total - line.residue.total;
            case 3: return later.tally.wentRound - line.tally.wentRound;
            default: return later.greatestTiredness();
        }
    }

    public int bestStaff(int station, int ticks) throws IndexOutOfBoundsException, IllegalArgumentException {
        Station asked = line.stationAt(station);
        if (asked == null) {
            throw new IndexOutOfBoundsException("no such station");
        }
        if (ticks < 1 || ticks > MAX_TRIAL) {
            throw new IllegalArgumentException("ticks out of range");
        }
        int best = 0;
        int most = NONE;
        for (int pickers = 0; pickers <= MAX_PICKERS; pickers++) {
            int picked = pickedWith(station, pickers, ticks);
            if (picked > most) {
                most = picked;
                best = pickers;
            }
        }
        return best;
    }

    private int pickedWith(int station, int pickers, int ticks) {
        Line trial = copyOfLine();
        Station tried = trial.stationAt(station);
        if (tried == null) {
            return 0;
        }
        int before = tried.picked;
        tried.relieve(pickers);
        trial.makeTicks(ticks);
        return tried.picked - before;
    }

    public int emptied() {
        Line later = copyOfLine();
        for (int ticks = 0; ticks < MAX_WAIT; ticks++) {
            if (later.isEmptied()) {
                return ticks;
            }
            later.makeTicks(1);
        }
        return later.isEmptied() ? MAX_WAIT : NONE;
    }

    // ---- lines kept beside the present one

    private Line spareLine() {
        if (spare == null) {
            spare = new Line();
        }
        return spare;
    }

    private Line copyOfLine() {
        Line copy = spareLine();
        copy.copyFrom(line);
        return copy;
    }

    /** Must be called ahead of every change, and only when nothing can be thrown any more. */
    private void remember() {
        Line kept = past[pastNext];
        if (kept == null) {
            kept = new Line();
            past[pastNext] = kept;
        }
        kept.copyFrom(line);
        pastNext = pastNext == MAX_CHANGES - 1 ? 0 : pastNext + 1;
        pastSize = Math.min(pastSize + 1, MAX_CHANGES);
    }

    /** A mass of each material; those that a line does not have stay 0. */
    private static final class Heap {
        private final int[] masses = new int[MAX_MATERIALS];
        private int total;

        int of(int material) {
            return material >= 0 && material < masses.length ? masses[material] : 0;
        }

        void put(int material, int kilograms) {
            if (material >= 0 && material < masses.length) {
                masses[material] += kilograms;
                total += kilograms;
            }
        }

        void clear() {
            Arrays.fill(masses, 0);
            total = 0;
        }

        void copyFrom(Heap other) {
            System.arraycopy(other.masses, 0, masses, 0, masses.length);
            total = other.total;
        }

        void putAll(Heap other) {
            for (int m = 0; m < masses.length; m++) {
                masses[m] += other.masses[m];
            }
            total += other.total;
        }

        void move(int material, int kilograms, Heap to) {
            if (material >= 0 && material < masses.length) {
                masses[material] -= kilograms;
                total -= kilograms;
                to.masses[material] += kilograms;
                to.total += kilograms;
            }
        }

        void movePortion(int kilograms, Heap to) {
            int whole = total;
            if (whole <= 0 || kilograms >= whole) {
                to.putAll(this);
                clear();
                return;
            }
            int missing = kilograms;
            for (int m = 0; m < masses.length; m++) {
                int part = masses[m] * kilograms / whole;
                move(m, part, to);
                missing -= part;
            }
            for (int i = 0; i < missing; i++) {
                move(mostBut(NONE), 1, to);
            }
        }

        /** The material of which most is here, of several the lowest, one material left out. */
        int mostBut(int leftOut) {
            int best = NONE;
            int most = NONE;
            for (int m = 0; m < masses.length; m++) {
                if (m != leftOut && masses[m] > most) {
                    best = m;
                    most = masses[m];
                }
            }
            return best;
        }
    }

    private static final class Parcel {
        private final Heap heap = new Heap();
        private int rounds;

        void copyFrom(Parcel other) {
            heap.copyFrom(other.heap);
            rounds = other.rounds;
        }
    }

    /** The parcels stand in a ring, so that the first one can go without moving the others. */
    private static final class Hopper {
        private final Parcel[] ring = new Parcel[MAX_PARCELS];
        private int first;
        private int size;

        Hopper() {
            for (int i = 0; i < ring.length; i++) {
                ring[i] = new Parcel();
            }
        }

        boolean isFull() {
            return size >= MAX_PARCELS;
        }

        /** Null if there is no such parcel. */
        Parcel parcelAt(int index) {
            if (index < 0 || index >= size) {
                return null;
            }
            return ring[(first + index) % MAX_PARCELS];
        }

        /** A new empty parcel behind the others; null if the hopper is full. */
        Parcel addLast(int rounds) {
            if (isFull()) {
                return null;
            }
            Parcel last = ring[(first + size) % MAX_PARCELS];
            last.heap.clear();
            last.rounds = rounds;
            size++;
            return last;
        }

        void dropFirst() {
            if (size > 0) {
                first = (first + 1) % MAX_PARCELS;
                size--;
            }
        }

        void dropLast() {
            if (size > 0) {
                size--;
            }
        }

        int totalMass() {
            int sum = 0;
            for (int i = 0; i < size; i++) {
                sum += ring[(first + i) % MAX_PARCELS].heap.total;
            }
            return sum;
        }

        void copyFrom(Hopper other) {
            first = 0;
            size = other.size;
            for (int i = 0; i < size; i++) {
                ring[i].copyFrom(other.ring[(other.first + i) % MAX_PARCELS]);
            }
        }
    }

    private static final class Station {
        private int target;
        private int pickers;
        private int rate;
        private int error;
        private int tiredness;
        private int pressed;
        private int picked;
        // The slot holds a parcel only while its total is not 0.
        private Parcel slot = new Parcel();
        private final Heap bunker = new Heap();

        int capacity() {
            return pickers * rate * (100 - tiredness) / 100;
        }

        boolean isSlotEmpty() {
            return slot.heap.total == 0;
        }

        void relieve(int freshPickers) {
            pickers = freshPickers;
            tiredness = 0;
        }

        void pick(int tiring) {
            Heap parcel = slot.heap;
            int right = Math.min(parcel.of(target), capacity());
            if (right < 1) {
                tiredness = Math.max(tiredness - 2, 0);
                return;
            }
            parcel.move(target, right, bunker);
            int other = parcel.mostBut(target);
            int wrong = Math.min(parcel.of(other), right * error / 100);
            parcel.move(other, wrong, bunker);
            picked += right + wrong;
            tiredness = Math.min(tiredness + tiring, MAX_TIREDNESS);
        }

        void copyFrom(Station from) {
            target = from.target;
            pickers = from.pickers;
            rate = from.rate;
            error = from.error;
            tiredness = from.tiredness;
            pressed = from.pressed;
            picked = from.picked;
            slot.copyFrom(from.slot);
            bunker.copyFrom(from.bunker);
        }
    }

    private static final class Bale {
        private int serial;
        private int material;
        private int purity;
        private int grade;
        private final Heap heap = new Heap();

        void judge(int limitA, int limitB) {
            purity = heap.total > 0 ? heap.of(material) * 100 / heap.total : 0;
            grade = purity >= limitA ? 0 : purity >= limitB ? 1 : 2;
        }

        void copyFrom(Bale other) {
            serial = other.serial;
            material = other.material;
            purity = other.purity;
            grade = other.grade;
            heap.copyFrom(other.heap);
        }
    }

    private static final class Stock {
        private final Bale[] bales = new Bale[MAX_BALES];
        private int size;

        Stock() {
            for (int i = 0; i < bales.length; i++) {
                bales[i] = new Bale();
            }
        }

        /** Null if there is no such bale. */
        Bale baleAt(int index) {
            return index >= 0 && index < size ? bales[index] : null;
        }

        /** A new empty bale behind the others; null if the stock is full. */
        Bale addLast() {
            if (size >= bales.length) {
                return null;
            }
            Bale last = bales[size];
            last.heap.clear();
            size++;
            return last;
        }

        /** What the bale holds can still be read until the next one is added. */
        void dropBale(int index) {
            Bale gone = baleAt(index);
            if (gone == null) {
                return;
            }
            for (int i = index + 1; i < size; i++) {
                bales[i - 1] = bales[i];
            }
            size--;
            bales[size] = gone;
        }

        int totalMass() {
            int sum = 0;
            for (int i = 0; i < size; i++) {
                sum += bales[i].heap.total;
            }
            return sum;
        }

        void copyFrom(Stock other) {
            size = other.size;
            for (int i = 0; i < size; i++) {
                bales[i].copyFrom(other.bales[i]);
            }
        }
    }

    private static final class Buyer {
        private int name;
        private int material;
        private int worstGrade;
        private int price;
        private int tolerance;
        private int limit;
        private int paid;

        boolean takes(Bale bale) {
            return bale.material == material && bale.grade <= worstGrade;
        }

        boolean sendsBack(Bale bale) {
            return 100 - bale.purity > limit;
        }

        boolean claimsFor(Bale bale) {
            return 100 - bale.purity > tolerance;
        }

        int payFor(Bale bale, int claimRate) {
            int worth = worthOf(bale.grade);
            if (!claimsFor(bale)) {
                return worth;
            }
            int claim = price * (100 - bale.purity - tolerance) * claimRate / 100;
            return worth - Math.min(claim, worth);
        }

        private int worthOf(int grade) {
            switch (grade) {
                case 0: return price;
                case 1: return price * 70 / 100;
                default: return price * 40 / 100;
            }
        }

        void copyFrom(Buyer other) {
            name = other.name;
            material = other.material;
            worstGrade = other.worstGrade;
            price = other.price;
            tolerance = other.tolerance;
            limit = other.limit;
            paid = other.paid;
        }
    }

    /** What has been counted since the text was read. */
    private static final class Tally {
        private int ticks;
        private int pressed;
        private int pressedA;
        private int wentRound;
        private int sold;
        private int sentBack;
        private int claims;
        private int massLoaded;
        private int massSold;
        private int massCleaned;

        void copyFrom(Tally other) {
            ticks = other.ticks;
            pressed = other.pressed;
            pressedA = other.pressedA;
            wentRound = other.wentRound;
            sold = other.sold;
            sentBack = other.sentBack;
            claims = other.claims;
            massLoaded = other.massLoaded;
            massSold = other.massSold;
            massCleaned = other.massCleaned;
        }
    }

    /** All that a text replaces and that a change can change. */
    private static final class Line {
        private int materials;
        private final int[] settings = FIRST_VALUES.clone();
        private final Station[] stations = new Station[MAX_STATIONS];
        private int stationCount;
        private final Buyer[] buyers = new Buyer[MAX_BUYERS];
        private int buyerCount;
        private final Hopper hopper = new Hopper();
        private final Stock stock = new Stock();
        private final Heap residue = new Heap();
        private final Tally tally = new Tally();
        // Of each material: the total of all bales pressed for it, and its own mass in them.
        private final Heap balesOf = new Heap();
        private final Heap ownInBales = new Heap();

        Line() {
            for (int i = 0; i < stations.length; i++) {
                stations[i] = new Station();
            }
            for (int i = 0; i < buyers.length; i++) {
                buyers[i] = new Buyer();
            }
        }

        boolean hasMaterial(int material) {
            return material >= 0 && material < materials;
        }

        /** Null if there is no such station. */
        Station stationAt(int index) {
            return index >= 0 && index < stationCount ? stations[index] : null;
        }

        /** Null if there is no such buyer. */
        Buyer buyerAt(int index) {
            return index >= 0 && index < buyerCount ? buyers[index] : null;
        }

        int buyerNamed(int name) {
            for (int i = 0; i < buyerCount; i++) {
                if (buyers[i].name == name) {
                    return i;
                }
            }
            return NONE;
        }

        /** Null if there is no such station or parcel. */
        Heap heapAt(int place) {
            if (place == RESIDUE_PLACE) {
                return residue;
            }
            if (place >= FIRST_PARCEL_PLACE) {
                Parcel parcel = hopper.parcelAt(place - FIRST_PARCEL_PLACE);
                return parcel == null ? null : parcel.heap;
            }
            boolean isSlot = place >= FIRST_SLOT_PLACE;
            Station station = stationAt(isSlot ? place - FIRST_SLOT_PLACE : place);
            if (station == null) {
                return null;
            }
            return isSlot ? station.slot.heap : station.bunker;
        }

        int parcelsOnBelt() {
            int count = 0;
            for (int i = 0; i < stationCount; i++) {
                count += stations[i].isSlotEmpty() ? 0 : 1;
            }
            return count;
        }

        int massOnBelt() {
            int sum = 0;
            for (int i = 0; i < stationCount; i++) {
                sum += stations[i].slot.heap.total;
            }
            return sum;
        }

        int massInBunkers() {
            int sum = 0;
            for (int i = 0; i < stationCount; i++) {
                sum += stations[i].bunker.total;
            }
            return sum;
        }

        int greatestTiredness() {
            int greatest = 0;
            for (int i = 0; i < stationCount; i++) {
                greatest = Math.max(greatest, stations[i].tiredness);
            }
            return greatest;
        }

        boolean isEmptied() {
            return hopper.size == 0 && parcelsOnBelt() == 0;
        }

        void addStation(int target, int pickers, int rate, int error) {
            if (stationCount >= stations.length) {
                return;
            }
            Station added = stations[stationCount];
            added.target = target;
            added.rate = rate;
            added.error = error;
            added.relieve(pickers);
            added.pressed = 0;
            added.picked = 0;
            added.slot.heap.clear();
            added.bunker.clear();
            stationCount++;
        }

        void makeTicks(int ticks) {
            for (int t = 0; t < ticks; t++) {
                leaveBelt();
                moveBelt();
                feedBelt();
                for (int i = 0; i < stationCount; i++) {
                    stations[i].pick(settings[TIRING]);
                }
                for (int i = 0; i < stationCount; i++) {
                    pressBales(stations[i]);
                }
                tally.ticks++;
            }
        }

        private void leaveBelt() {
            Station last = stationAt(stationCount - 1);
            if (last == null || last.isSlotEmpty()) {
                return;
            }
            Parcel leaving = last.slot;
            Parcel again = goesRound(leaving) ? hopper.addLast(leaving.rounds + 1) : null;
            if (again == null) {
                residue.putAll(leaving.heap);
            } else {
                again.heap.putAll(leaving.heap);
                tally.wentRound++;
            }
            leaving.heap.clear();
        }

        private boolean goesRound(Parcel parcel) {
            if (parcel.rounds >= settings[ROUNDS] || hopper.isFull()) {
                return false;
            }
            int wanted = 0;
            for (int m = 0; m < materials; m++) {
                wanted += isTarget(m) ? parcel.heap.of(m) : 0;
            }
            int total = parcel.heap.total;
            return wanted >= 1 && total > 0 && wanted * 100 / total >= settings[LOOP];
        }

        private boolean isTarget(int material) {
            for (int i = 0; i < stationCount; i++) {
                if (stations[i].target == material) {
                    return true;
                }
            }
            return false;
        }

        /** The slot that the last parcel has left serves as the first one. */
        private void moveBelt() {
            if (stationCount < 1) {
                return;
            }
            Parcel left = stations[stationCount - 1].slot;
            for (int i = stationCount - 1; i > 0; i--) {
                stations[i].slot = stations[i - 1].slot;
            }
            stations[0].slot = left;
        }

        private void feedBelt() {
            Parcel waiting = hopper.parcelAt(0);
            Station entry = stationAt(0);
            if (waiting == null || entry == null) {
                return;
            }
            waiting.heap.movePortion(settings[FEED], entry.slot.heap);
            entry.slot.rounds = waiting.rounds;
            if (waiting.heap.total == 0) {
                hopper.dropFirst();
            }
        }

        private void pressBales(Station station) {
            for (int size = stock.size; size < MAX_BALES; size++) {
                if (station.bunker.total < settings[BALE]) {
                    return;
                }
                pressBale(station);
            }
        }

        private void pressBale(Station station) {
            Bale bale = stock.addLast();
            if (bale == null) {
                return;
            }
            station.bunker.movePortion(settings[BALE], bale.heap);
            bale.serial = tally.pressed;
            bale.material = station.target;
            bale.judge(settings[LIMIT_A], settings[LIMIT_B]);
            station.pressed++;
            tally.pressed++;
            tally.pressedA += bale.grade == 0 ? 1 : 0;
            balesOf.put(bale.material, bale.heap.total);
            ownInBales.put(bale.material, bale.heap.of(bale.material));
        }

        void takeBack(Bale bale) {
            Parcel parcel = hopper.addLast(0);
            if (parcel != null) {
                parcel.heap.putAll(bale.heap);
                tally.sentBack++;
            }
        }

        int handOver(Bale bale, Buyer client) {
            int pay = client.payFor(bale, settings[CLAIM]);
            client.paid += pay;
            tally.sold++;
            tally.claims += client.claimsFor(bale) ? 1 : 0;
            tally.massSold += bale.heap.total;
            return pay;
        }

        /** What a line has before its text says anything. */
        void reset() {
            materials = 0;
            System.arraycopy(FIRST_VALUES, 0, settings, 0, settings.length);
            stationCount = 0;
            buyerCount = 0;
            hopper.size = 0;
            stock.size = 0;
            residue.clear();
            balesOf.clear();
            ownInBales.clear();
            tally.copyFrom(new Tally());
        }

        void copyFrom(Line other) {
            materials = other.materials;
            System.arraycopy(other.settings, 0, settings, 0, settings.length);
            stationCount = other.stationCount;
            for (int i = 0; i < stationCount; i++) {
                stations[i].copyFrom(other.stations[i]);
            }
            buyerCount = other.buyerCount;
            for (int i = 0; i < buyerCount; i++) {
                buyers[i].copyFrom(other.buyers[i]);
            }
            hopper.copyFrom(other.hopper);
            stock.copyFrom(other.stock);
            residue.copyFrom(other.residue);
            balesOf.copyFrom(other.balesOf);
            ownInBales.copyFrom(other.ownInBales);
            tally.copyFrom(other.tally);
        }
    }

    /**
     * Reads one text into a line. Only the first error counts, and it stands at the present token: from
     * then on the reader stays there, so that everything behind it is passed over.
     */
    private static final class TextReader {
        private static final int END = 0;
        private static final int WORD = 1;
        private static final int NUMBER = 2;
        private static final int SEMICOLON = 3;
        private static final int INVALID = 4;

        private static final int MISPLACED = 1;
        private static final int OUT_OF_RANGE = 2;
        private static final int NAME_TAKEN = 3;
        private static final int TOO_MANY = 5;

        private static final int MAX_DIGITS = 4;

        private final byte[] text;
        private final int length;
        private final Line line;
        private int token;
        private int start;
        private int end;
        private int value;
        private int failure;

        TextReader(byte[] text, int length, Line line) {
            this.text = text;
            this.length = length;
            this.line = line;
        }

        /** A number for a name of 1 to 6 lowercase letters, a different one for each; NONE for other bytes. */
        static int nameCode(byte[] text, int from, int to) {
            if (from < 0 || from >= to || to > text.length || to - from > MAX_NAME) {
                return NONE;
            }
            int code = 0;
            for (int i = from; i < to; i++) {
                if (!isLetter(text[i])) {
                    return NONE;
                }
                code = code * 32 + (text[i] - 'a' + 1);
            }
            return code;
        }

        /** Returns 0, or 8 * offset + kind of the error. */
        int readText() {
            line.reset();
            nextToken();
            if (isWord("materials")) {
                nextToken();
                line.materials = readNumber(1, MAX_MATERIALS);
                readSemicolon();
            } else {
                fail(MISPLACED);
            }
            for (int i = 0; i < MAX_TEXT && failure == 0 && token != END; i++) {
                readStatement();
                readSemicolon();
            }
            if (line.stationCount == 0) {
                fail(MISPLACED);
            }
            return failure;
        }

        private void readStatement() {
            if (isWord("station")) {
                readStation();
            } else if (isWord("set")) {
                readSetting();
            } else if (isWord("load")) {
                readLoad();
            } else if (isWord("buyer")) {
                readBuyer();
            } else {
                fail(MISPLACED);
            }
        }

        private void readStation() {
            if (line.stationCount >= MAX_STATIONS) {
                fail(TOO_MANY);
                return;
            }
            nextToken();
            int target = readNumber(0, line.materials - 1);
            int pickers = readNumber(0, MAX_PICKERS);
            int rate = readNumber(1, 50);
            int error = readNumber(0, 30);
            if (failure == 0) {
                line.addStation(target, pickers, rate, error);
            }
        }

        private void readSetting() {
            nextToken();
            int what = readNumber(0, SETTINGS - 1);
            if (what >= 0 && what < SETTINGS) {
                line.settings[what] = readNumber(LEAST_VALUES[what], GREATEST_VALUES[what]);
            }
        }

        private void readLoad() {
            Parcel parcel = line.hopper.addLast(0);
            if (parcel == null) {
                fail(TOO_MANY);
                return;
            }
            nextToken();
            parcel.heap.put(0, readNumber(0, MAX_LOAD));
            for (int m = 1; m < line.materials && token == NUMBER; m++) {
                parcel.heap.put(m, readNumber(0, MAX_LOAD));
            }
            line.tally.massLoaded += parcel.heap.total;
            if (parcel.heap.total == 0) {
                line.hopper.dropLast();
            }
        }

        private void readBuyer() {
            if (line.buyerCount >= MAX_BUYERS) {
                fail(TOO_MANY);
                return;
            }
            nextToken();
            Buyer buyer = line.buyers[line.buyerCount];
            buyer.name = readName();
            buyer.material = readNumber(0, line.materials - 1);
            buyer.worstGrade = readNumber(0, 2);
            buyer.price = readNumber(1, 9999);
            buyer.tolerance = readNumber(0, 100);
            buyer.limit = readNumber(0, 100);
            buyer.paid = 0;
            line.buyerCount++;
        }

        private int readName() {
            int name = token == WORD && !isKeyword() ? nameCode(text, start, end) : NONE;
            if (name == NONE) {
                fail(MISPLACED);
            } else if (line.buyerNamed(name) != NONE) {
                fail(NAME_TAKEN);
            } else {
                nextToken();
            }
            return name;
        }

        /** The least value if there is an error. */
        private int readNumber(int least, int greatest) {
            if (token != NUMBER) {
                fail(MISPLACED);
                return least;
            }
            if (value < least || value > greatest) {
                fail(OUT_OF_RANGE);
                return least;
            }
            int read = value;
            nextToken();
            return read;
        }

        private void readSemicolon() {
            if (token == SEMICOLON) {
                nextToken();
            } else {
                fail(MISPLACED);
            }
        }

        private void fail(int kind) {
            if (failure == 0) {
                failure = 8 * start + kind;
            }
        }

        private boolean isKeyword() {
            return isWord("materials") || isWord("station") || isWord("set") || isWord("load") || isWord("buyer");
        }

        private boolean isWord(String word) {
            if (token != WORD || end - start != word.length()) {
                return false;
            }
            for (int i = 0; i < word.length(); i++) {
                if (text[start + i] != word.charAt(i)) {
                    return false;
                }
            }
            return true;
        }

        private void nextToken() {
            if (failure != 0) {
                return;
            }
            start = end;
            while (start < length && isBlank(text[start])) {
                start++;
            }
            end = start;
            if (start >= length) {
                token = END;
            } else if (isLetter(text[start])) {
                token = WORD;
                while (end < length && isLetter(text[end])) {
                    end++;
                }
            } else if (isDigit(text[start])) {
                value = 0;
                while (end < length && isDigit(text[end])) {
                    // What a run of too many digits comes to is never looked at.
                    value = value * 10 + (text[end] - '0');
                    end++;
                }
                token = end - start > MAX_DIGITS ? INVALID : NUMBER;
            } else {
                token = text[start] == ';' ? SEMICOLON : INVALID;
                end++;
            }
        }

        private static boolean isBlank(byte code) {
            return code == ' ' || code == '\n';
        }

        private static boolean isLetter(byte code) {
            return code >= 'a' && code <= 'z';
        }

        private static boolean isDigit(byte code) {
            return code >= '0' && code <= '9';
        }
    }
}
