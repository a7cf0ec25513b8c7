import java.util.ArrayList;
import java.util.Arrays;
import java.util.HashMap;
import java.util.List;
import java.util.Map;
import java.util.TreeMap;
import java.util.regex.Matcher;
import java.util.regex.Pattern;

/**
 * The document once more, written for being compared with it line by line and not for speed: lists and maps,
 * a whole copy of the state ahead of each change, the grammar over a list of tokens.
 */
final class Model {
    private static final int[][] RANGES = {{1, 200}, {20, 500}, {0, 100}, {0, 100}, {0, 100}, {0, 5}, {0, 5}, {0, 20}};
    private static final List<String> KEYWORDS = List.of("materials", "station", "set", "load", "buyer");

    private static final class Parcel {
        int[] heap;
        int rounds;

        Parcel(int[] heap, int rounds) {
            this.heap = heap;
            this.rounds = rounds;
        }
    }

    private static final class Station {
        int target;
        int pickers;
        int rate;
        int error;
        int tired;
        Parcel slot;
        int[] bunker;
        int pressed;
        int picked;
    }

    private static final class Bale {
        int serial;
        int material;
        int[] heap;
        int purity;
        int grade;
    }

    private static final class Buyer {
        String name;
        int[] numbers;
        int paid;
    }

    private static final class State {
        int materials;
        List<Station> stations = new ArrayList<>();
        int[] settings = {50, 100, 95, 85, 20, 2, 1, 2};
        List<Parcel> hopper = new ArrayList<>();
        List<Bale> stock = new ArrayList<>();
        List<Bale> allBales = new ArrayList<>();
        List<Buyer> buyers = new ArrayList<>();
        int[] residue;
        int ticks;
        int sold;
        int back;
        int claims;
        int roundTrips;
        long loaded;
        long soldMass;
        long cleaned;

        State copy() {
            State c = new State();
            c.materials = materials;
            for (Station s : stations) {
                Station t = new Station();
                t.target = s.target;
                t.pickers = s.pickers;
                t.rate = s.rate;
                t.error = s.error;
                t.tired = s.tired;
                t.slot = s.slot == null ? null : new Parcel(s.slot.heap.clone(), s.slot.rounds);
                t.bunker = s.bunker.clone();
                t.pressed = s.pressed;
                t.picked = s.picked;
                c.stations.add(t);
            }
            c.settings = settings.clone();
            for (Parcel p : hopper) {
                c.hopper.add(new Parcel(p.heap.clone(), p.rounds));
            }
            c.stock.addAll(stock);
            c.allBales.addAll(allBales);
            for (Buyer b : buyers) {
                Buyer d = new Buyer();
                d.name = b.name;
                d.numbers = b.numbers;
                d.paid = b.paid;
                c.buyers.add(d);
            }
            c.residue = residue.clone();
            c.ticks = ticks;
            c.sold = sold;
            c.back = back;
            c.claims = claims;
            c.roundTrips = roundTrips;
            c.loaded = loaded;
            c.soldMass = soldMass;
            c.cleaned = cleaned;
            return c;
        }
    }

    private State now;
    private List<State> past = new ArrayList<>();
    private StringBuilder buffer = new StringBuilder();

    Model() {
        now = parse("materials 1;station 0 0 1 0;");
    }

    // ---- heaps

    private static int total(int[] heap) {
        return Arrays.stream(heap).sum();
    }

    private static void add(int[] to, int[] what, int sign) {
        for (int m = 0; m < to.length; m++) {
            to[m] += sign * what[m];
        }
    }

    /** Takes the portion out of the heap and returns it. */
    private static int[] portion(int[] heap, int p) {
        int t = total(heap);
        int[] taken = new int[heap.length];
        if (p >= t) {
            taken = heap.clone();
            Arrays.fill(heap, 0);
            return taken;
        }
        for (int m = 0; m < heap.length; m++) {
            taken[m] = (int) ((long) heap[m] * p / t);
        }
        add(heap, taken, -1);
        while (total(taken) < p) {
            int greatest = Arrays.stream(heap).max().getAsInt();
            for (int m = 0; m < heap.length; m++) {
                if (heap[m] == greatest) {
                    heap[m]--;
                    taken[m]++;
                    break;
                }
            }
        }
        return taken;
    }

    // ---- a tick

    private static int capacity(Station s) {
        return s.pickers * s.rate * (100 - s.tired) / 100;
    }

    private static void tick(State s) {
        int last = s.stations.size() - 1;
        Parcel leaving = s.stations.get(last).slot;
        if (leaving != null) {
            int r = 0;
            for (int m = 0; m < s.materials; m++) {
                int material = m;
                if (s.stations.stream().anyMatch(x -> x.target == material)) {
                    r += leaving.heap[m];
                }
            }
            boolean again = r * 100 / total(leaving.heap) >= s.settings[4] && r >= 1
                && leaving.rounds < s.settings[5] && s.hopper.size() < 30;
            if (again) {
                s.hopper.add(new Parcel(leaving.heap, leaving.rounds + 1));
                s.roundTrips++;
            } else {
                add(s.residue, leaving.heap, 1);
            }
        }
        for (int i = last; i >= 1; i--) {
            s.stations.get(i).slot = s.stations.get(i - 1).slot;
        }
        s.stations.get(0).slot = null;
        if (!s.hopper.isEmpty()) {
            Parcel first = s.hopper.get(0);
            s.stations.get(0).slot = new Parcel(portion(first.heap, s.settings[0]), first.rounds);
            if (total(first.heap) == 0) {
                s.hopper.remove(0);
            }
        }
        for (Station station : s.stations) {
            pick(s, station);
        }
        for (Station station : s.stations) {
            while (total(station.bunker) >= s.settings[1] && s.stock.size() < 40) {
                press(s, station);
            }
        }
        s.ticks++;
    }

    private static void pick(State s, Station station) {
        int p = 0;
        if (station.slot != null) {
            int[] heap = station.slot.heap;
            p = Math.min(heap[station.target], capacity(station));
            heap[station.target] -= p;
            station.bunker[station.target] += p;
            station.picked += p;
            int other = -1;
            for (int m = s.materials - 1; m >= 0; m--) {
                if (m != station.target && (other < 0 || heap[m] >= heap[other])) {
                    other = m;
                }
            }
            if (other >= 0) {
                int wrong = Math.min(heap[other], p * station.error / 100);
                heap[other] -= wrong;
                station.bunker[other] += wrong;
                station.picked += wrong;
            }
            if (total(heap) == 0) {
                station.slot = null;
            }
        }
        station.tired = p >= 1 ? Math.min(60, station.tired + s.settings[6]) : Math.max(0, station.tired - 2);
    }

    private static void press(State s, Station station) {
        Bale bale = new Bale();
        bale.serial = s.allBales.size();
        bale.material = station.target;
        bale.heap = portion(station.bunker, s.settings[1]);
        bale.purity = bale.heap[bale.material] * 100 / total(bale.heap);
        bale.grade = bale.purity >= s.settings[2] ? 0 : bale.purity >= s.settings[3] ? 1 : 2;
        station.pressed++;
        s.allBales.add(bale);
        s.stock.add(bale);
    }

    // ---- texts

    int append(int a, int b, int c, int d, int e) {
        if (buffer.length() > 680) {
            return -1;
        }
        for (int word : new int[] {a, b, c, d, e}) {
            buffer.append((char) (word >>> 24)).append((char) (word >>> 16 & 255));
            buffer.append((char) (word >>> 8 & 255)).append((char) (word & 255));
        }
        return buffer.length();
    }

    boolean truncate(int length) {
        if (length < 0 || length > buffer.length()) {
            return false;
        }
        buffer.setLength(length);
        return true;
    }

    int bufferLength() {
        return buffer.length();
    }

    private static final class Refused extends RuntimeException {
        private static final long serialVersionUID = 1L;
        final int code;

        Refused(int offset, int kind) {
            code = 8 * offset + kind;
        }
    }

    private static final class Tokens {
        private static final Pattern TOKEN = Pattern.compile("[ \n]*(?:([a-z]+)|([0-9]+)|(;)|([^ \n])|$)", Pattern.DOTALL);
        final List<String> words = new ArrayList<>();
        final List<Integer> offsets = new ArrayList<>();
        int at;

        Tokens(String text) {
            Matcher m = TOKEN.matcher(text);
            int from = 0;
            while (from < text.length() && m.find(from)) {
                int group = 1;
                while (group <= 4 && m.group(group) == null) {
                    group++;
                }
                if (group > 4) {
                    break;
                }
                words.add(m.group(group));
                offsets.add(m.start(group));
                from = m.end();
            }
            words.add("");
            offsets.add(text.length());
        }

        String peek() {
            return words.get(at);
        }

        Refused refuse(int kind) {
            return new Refused(offsets.get(at), kind);
        }

        void literal(String word) {
            if (!peek().equals(word)) {
                throw refuse(1);
            }
            at++;
        }

        boolean number() {
            return peek().matches("[0-9]{1,4}");
        }

        int number(int least, int greatest) {
            if (!number()) {
                throw refuse(1);
            }
            int value = Integer.parseInt(peek());
            if (value < least || value > greatest) {
                throw refuse(2);
            }
            at++;
            return value;
        }
    }

    private static State parse(String text) {
        Tokens t = new Tokens(text);
        State s = new State();
        t.literal("materials");
        s.materials = t.number(1, 6);
        s.residue = new int[s.materials];
        t.literal(";");
        while (!t.peek().isEmpty()) {
            statement(t, s);
            t.literal(";");
        }
        if (s.stations.isEmpty()) {
            throw t.refuse(1);
        }
        return s;
    }

    private static void statement(Tokens t, State s) {
        switch (t.peek()) {
            case "station" -> {
                if (s.stations.size() == 8) {
                    throw t.refuse(5);
                }
                t.at++;
                Station station = new Station();
                station.target = t.number(0, s.materials - 1);
                station.pickers = t.number(0, 9);
                station.rate = t.number(1, 50);
                station.error = t.number(0, 30);
                station.bunker = new int[s.materials];
                s.stations.add(station);
            }
            case "set" -> {
                t.at++;
                int what = t.number(0, 7);
                s.settings[what] = t.number(RANGES[what][0], RANGES[what][1]);
            }
            case "load" -> {
                if (s.hopper.size() == 30) {
                    throw t.refuse(5);
                }
                t.at++;
                int[] heap = new int[s.materials];
                heap[0] = t.number(0, 999);
                for (int m = 1; t.number(); m++) {
                    if (m == s.materials) {
                        throw t.refuse(1);
                    }
                    heap[m] = t.number(0, 999);
                }
                if (total(heap) > 0) {
                    s.hopper.add(new Parcel(heap, 0));
                    s.loaded += total(heap);
                }
            }
            case "buyer" -> {
                if (s.buyers.size() == 4) {
                    throw t.refuse(5);
                }
                t.at++;
                Buyer buyer = new Buyer();
                buyer.name = t.peek();
                if (!buyer.name.matches("[a-z]{1,6}") || KEYWORDS.contains(buyer.name)) {
                    throw t.refuse(1);
                }
                if (s.buyers.stream().anyMatch(b -> b.name.equals(buyer.name))) {
                    throw t.refuse(3);
                }
                t.at++;
                buyer.numbers = new int[] {t.number(0, s.materials - 1), t.number(0, 2), t.number(1, 9999),
                    t.number(0, 100), t.number(0, 100)};
                s.buyers.add(buyer);
            }
            default -> throw t.refuse(1);
        }
    }

    int read() {
        String text = buffer.toString();
        buffer.setLength(0);
        try {
            now = parse(text);
        } catch (Refused refused) {
            return -refused.code;
        }
        past.clear();
        return now.stations.size();
    }

    int find() {
        String name = buffer.toString();
        buffer.setLength(0);
        for (int i = 0; i < now.buyers.size(); i++) {
            if (now.buyers.get(i).name.equals(name)) {
                return i;
            }
        }
        return -1;
    }

    // ---- what there is

    int line(int what) {
        Map<Integer, Integer> all = new HashMap<>();
        all.put(0, now.materials);
        all.put(1, now.stations.size());
        all.put(2, now.buyers.size());
        all.put(3, now.ticks);
        all.put(4, now.hopper.size());
        all.put(5, (int) now.stations.stream().filter(s -> s.slot != null).count());
        all.put(6, now.stock.size());
        all.put(7, now.allBales.size());
        all.put(8, now.sold);
        all.put(9, now.back);
        all.put(10, now.claims);
        return all.getOrDefault(what, -1);
    }

    private static void index(int i, int size) {
        if (i < 0 || i >= size) {
            throw new IndexOutOfBoundsException();
        }
    }

    private static void range(int value, int least, int greatest) {
        if (value < least || value > greatest) {
            throw new IllegalArgumentException();
        }
    }

    int setting(int what) {
        index(what, 8);
        return now.settings[what];
    }

    int station(int station, int what) {
        index(station, now.stations.size());
        range(what, 0, 10);
        Station s = now.stations.get(station);
        int onBelt = s.slot == null ? 0 : total(s.slot.heap);
        int rounds = s.slot == null ? -1 : s.slot.rounds;
        return new int[] {s.target, s.pickers, s.rate, s.error, s.tired, capacity(s), total(s.bunker), onBelt, rounds,
            s.pressed, s.picked}[what];
    }

    int mass(int place, int material) {
        range(place, 0, 46);
        index(material, now.materials);
        Map<Integer, int[]> heaps = new TreeMap<>();
        for (int i = 0; i < now.stations.size(); i++) {
            heaps.put(i, now.stations.get(i).bunker);
            if (now.stations.get(i).slot != null) {
                heaps.put(8 + i, now.stations.get(i).slot.heap);
            }
        }
        for (int i = 0; i < now.hopper.size(); i++) {
            heaps.put(16 + i, now.hopper.get(i).heap);
        }
        heaps.put(46, now.residue);
        return heaps.getOrDefault(place, new int[6])[material];
    }

    int bale(int bale, int what) {
        index(bale, now.stock.size());
        range(what, 0, 4 + now.materials);
        Bale b = now.stock.get(bale);
        return what >= 5 ? b.heap[what - 5] : new int[] {b.serial, b.material, total(b.heap), b.purity, b.grade}[what];
    }

    int buyer(int buyer, int what) {
        index(buyer, now.buyers.size());
        range(what, 0, 5);
        Buyer b = now.buyers.get(buyer);
        return what == 5 ? b.paid : b.numbers[what];
    }

    long balance(int what) {
        switch (what) {
            case 0: return now.loaded;
            case 1: return now.hopper.stream().mapToInt(p -> total(p.heap)).sum();
            case 2: return now.stations.stream().filter(s -> s.slot != null).mapToInt(s -> total(s.slot.heap)).sum();
            case 3: return now.stations.stream().mapToInt(s -> total(s.bunker)).sum();
            case 4: return now.stock.stream().mapToInt(b -> total(b.heap)).sum();
            case 5: return now.soldMass;
            case 6: return total(now.residue);
            case 7: return now.cleaned;
            default: return -1;
        }
    }

    double purity(int material) {
        index(material, now.materials);
        double own = now.allBales.stream().filter(b -> b.material == material).mapToInt(b -> b.heap[material]).sum();
        double all = now.allBales.stream().filter(b -> b.material == material).mapToInt(b -> total(b.heap)).sum();
        return all == 0 ? 0 : own / all;
    }

    float loss() {
        float residue = total(now.residue);
        float pressed = now.allBales.stream().mapToInt(b -> total(b.heap)).sum();
        return residue == 0 && pressed == 0 ? 0 : residue / (residue + pressed);
    }

    // ---- changes

    private void change() {
        past.add(now.copy());
        if (past.size() > 6) {
            past.remove(0);
        }
    }

    int load(int material, int mass) {
        index(material, now.materials);
        range(mass, 1, 999);
        if (now.hopper.size() == 30) {
            throw new IllegalStateException();
        }
        change();
        int[] heap = new int[now.materials];
        heap[material] = mass;
        now.hopper.add(new Parcel(heap, 0));
        now.loaded += mass;
        return now.hopper.size();
    }

    int set(int what, int value) {
        index(what, 8);
        range(value, RANGES[what][0], RANGES[what][1]);
        change();
        int former = now.settings[what];
        now.settings[what] = value;
        return former;
    }

    int staff(int station, int pickers) {
        index(station, now.stations.size());
        range(pickers, 0, 9);
        change();
        int former = now.stations.get(station).pickers;
        now.stations.get(station).pickers = pickers;
        now.stations.get(station).tired = 0;
        return former;
    }

    int run(int ticks) {
        range(ticks, 1, 200);
        if (now.ticks + ticks > 9999) {
            throw new IllegalStateException();
        }
        change();
        int before = now.allBales.size();
        for (int i = 0; i < ticks; i++) {
            tick(now);
        }
        return now.allBales.size() - before;
    }

    private static boolean takes(Buyer buyer, Bale bale) {
        return buyer.numbers[0] == bale.material && bale.grade <= buyer.numbers[1];
    }

    /** What the buyer would pay for a bale that it takes; -1 if it would send it back. */
    private int offer(Buyer buyer, Bale bale) {
        int impurity = 100 - bale.purity;
        if (impurity > buyer.numbers[4]) {
            return -1;
        }
        int price = buyer.numbers[2];
        int worth = bale.grade == 0 ? price : bale.grade == 1 ? price * 70 / 100 : price * 40 / 100;
        int claim = impurity > buyer.numbers[3] ? price * (impurity - buyer.numbers[3]) * now.settings[7] / 100 : 0;
        return Math.max(0, worth - claim);
    }

    int sell(int bale, int buyer) {
        index(bale, now.stock.size());
        index(buyer, now.buyers.size());
        Bale sold = now.stock.get(bale);
        Buyer client = now.buyers.get(buyer);
        if (!takes(client, sold)) {
            throw new IllegalArgumentException();
        }
        int pay = offer(client, sold);
        if (pay < 0 && now.hopper.size() == 30) {
            throw new IllegalStateException();
        }
        change();
        now.stock.remove(bale);
        if (pay < 0) {
            now.hopper.add(new Parcel(sold.heap.clone(), 0));
            now.back++;
            return -1;
        }
        client.paid += pay;
        now.sold++;
        now.soldMass += total(sold.heap);
        now.claims += 100 - sold.purity > client.numbers[3] ? 1 : 0;
        return pay;
    }

    int clean(int station) {
        index(station, now.stations.size());
        change();
        int[] bunker = now.stations.get(station).bunker;
        int away = total(bunker);
        Arrays.fill(bunker, 0);
        now.cleaned += away;
        return away;
    }

    int undo() {
        if (past.isEmpty()) {
            return -1;
        }
        now = past.remove(past.size() - 1);
        return past.size();
    }

    // ---- questions

    int bestBuyer(int bale) {
        index(bale, now.stock.size());
        int best = -1;
        for (int i = now.buyers.size() - 1; i >= 0; i--) {
            Buyer buyer = now.buyers.get(i);
            if (takes(buyer, now.stock.get(bale))) {
                int pay = offer(buyer, now.stock.get(bale));
                if (pay >= 0 && (best < 0 || pay >= offer(now.buyers.get(best), now.stock.get(bale)))) {
                    best = i;
                }
            }
        }
        return best;
    }

    int outlook(int ticks, int what) {
        range(ticks, 1, 200);
        range(what, 0, 4);
        State later = now.copy();
        for (int i = 0; i < ticks; i++) {
            tick(later);
        }
        List<Bale> pressed = later.allBales.subList(now.allBales.size(), later.allBales.size());
        switch (what) {
            case 0: return pressed.size();
            case 1: return (int) pressed.stream().filter(b -> b.grade == 0).count();
            case 2: return total(later.residue) - total(now.residue);
            case 3: return later.roundTrips - now.roundTrips;
            default: return later.stations.stream().mapToInt(s -> s.tired).max().getAsInt();
        }
    }

    int bestStaff(int station, int ticks) {
        index(station, now.stations.size());
        range(ticks, 1, 100);
        int[] picked = new int[10];
        for (int pickers = 0; pickers < 10; pickers++) {
            State trial = now.copy();
            trial.stations.get(station).pickers = pickers;
            trial.stations.get(station).tired = 0;
            for (int i = 0; i < ticks; i++) {
                tick(trial);
            }
            picked[pickers] = trial.stations.get(station).picked;
        }
        int greatest = Arrays.stream(picked).max().getAsInt();
        int least = 0;
        while (picked[least] < greatest) {
            least++;
        }
        return least;
    }

    int emptied() {
        State later = now.copy();
        for (int ticks = 0; ticks <= 400; ticks++) {
            if (later.hopper.isEmpty() && later.stations.stream().allMatch(s -> s.slot == null)) {
                return ticks;
            }
            tick(later);
        }
        return -1;
    }
}
