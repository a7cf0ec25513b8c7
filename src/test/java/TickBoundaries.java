/** The boundaries of heaps, of the hopper and the stations, and of the first three steps of a tick. */
final class TickBoundaries {
    private static final Class<IndexOutOfBoundsException> INDEX = IndexOutOfBoundsException.class;
    private static final Class<IllegalStateException> STATE = IllegalStateException.class;

    private TickBoundaries() {
    }

    static void all() {
        Checks.each(TickBoundaries::divisions, TickBoundaries::materials, TickBoundaries::totals,
            TickBoundaries::portions, TickBoundaries::wholeHeaps, TickBoundaries::hopperOfThirty,
            TickBoundaries::hopperInUse, TickBoundaries::roundsOfWhatIsLoaded, TickBoundaries::stationNumbers,
            TickBoundaries::stationRanges, TickBoundaries::capacities, TickBoundaries::settings,
            TickBoundaries::leavingTheBelt, TickBoundaries::targetsOfSomeStation, TickBoundaries::loopShare,
            TickBoundaries::atLeastOneKilogram, TickBoundaries::roundsAllowed, TickBoundaries::heapsOfTheResidue,
            TickBoundaries::placeInTheHopper, TickBoundaries::lastInTheHopper, TickBoundaries::movingOn,
            TickBoundaries::feeding, TickBoundaries::feedingRounds, TickBoundaries::firstOfTheHopper,
            TickBoundaries::pickingTheTarget, TickBoundaries::pickingNothing, TickBoundaries::pickingOthers,
            TickBoundaries::fillingTheBunker, TickBoundaries::growingTired, TickBoundaries::parcelsPickedEmpty);
    }

    private static RecyclingLine ticked(int ticks, String text) {
        RecyclingLine x = Checks.lineOf(text);
        x.run(ticks);
        return x;
    }

    private static void divisions() {
        Sentences.holds(0, "divisions round down (no number that is divided is negative)");
        RecyclingLine x = ticked(1, "materials 2;station 0 1 3 30;set 0 200;load 3 9;");
        Checks.due("1 * 3 * 99 / 100", x.station(0, 5), 2);
        Checks.due("3 * 30 / 100 of others", x.mass(0, 1), 0);
        RecyclingLine y = ticked(1, "materials 2;station 0 9 50 20;set 0 200;set 1 24;set 2 84;set 3 84;"
            + "buyer a 0 2 33 0 100;load 20 4;");
        Checks.due("20 * 100 / 24", y.bale(0, 3), 83);
        y.set(7, 1);
        Checks.due("33 * 40 / 100 less 33 * 17 * 1 / 100", y.sell(0, 0), 13 - 5);
    }

    private static void materials() {
        Sentences.holds(0, "Materials are numbered from 0; there are 1 to 6.");
        for (int materials = 1; materials <= 6; materials++) {
            String last = "0 ".repeat(materials - 1) + "7";
            RecyclingLine x = Checks.lineOf("materials " + materials + ";station 0 0 1 0;load " + last + ";");
            Checks.due("materials", x.line(0), materials);
            Checks.due("the last one", x.mass(16, materials - 1), 7);
            int none = materials;
            Checks.dueThrow("one more", INDEX, () -> x.mass(16, none));
            Checks.dueThrow("one less than the first", INDEX, () -> x.mass(16, -1));
        }
        Checks.refuses("materials ^0;station 0 0 1 0;", 2);
        Checks.refuses("materials ^7;station 0 0 1 0;", 2);
    }

    private static void totals() {
        Sentences.holds(0, "A heap has a mass (0 or more) of each material; its total is the sum of them.");
        RecyclingLine x = Checks.lineOf("materials 6;station 5 9 50 30;set 0 200;set 1 100;load 1 2 3 4 5 6;");
        Checks.due("of a parcel in the hopper", x.balance(1), 21L);
        x.run(1);
        // 6 of the target, and 6 * 30 / 100 of material 4.
        Checks.masses(x, 0, 0, 0, 0, 0, 1, 6);
        Checks.due("of a bunker", x.station(0, 6), 7);
        Checks.masses(x, 8, 1, 2, 3, 4, 4, 0);
        Checks.due("of a parcel in a slot", x.station(0, 7), 14);
        x.run(1);
        Checks.masses(x, 46, 1, 2, 3, 4, 4, 0);
        Checks.due("of the residue", x.balance(6), 14L);
        RecyclingLine y = ticked(1, "materials 6;station 5 9 50 30;set 0 200;set 1 20;load 0 0 0 0 7 80;");
        Checks.due("of a bale", y.bale(0, 2), 20);
        Checks.due("as the sum of its masses", y.bale(0, 9) + y.bale(0, 10), 20);
    }

    private static void portions() {
        Sentences.holds(0, "A portion of p kilograms of a heap with a greater total T is taken in this way: of each"
            + " material its mass * p / T is taken; the kilograms that are missing then are taken one by one, each of"
            + " the material of which most is left in the heap (of several the lowest material).");
        String text = "materials 3;station 0 0 1 0;set 5 0;set 0 ";
        // One kilogram, which all materials miss: the most, and of several the lowest.
        Checks.masses(ticked(1, text + "1;load 4 9 9;"), 8, 0, 1, 0);
        Checks.masses(ticked(1, text + "1;load 9 9 9;"), 8, 1, 0, 0);
        Checks.masses(ticked(1, text + "1;load 0 0 9;"), 8, 0, 0, 1);
        // What is left counts, not what was there: 6 * 7 / 10, 4 * 7 / 10 leave 2 and 2.
        Checks.masses(ticked(1, text + "7;load 6 4;"), 8, 5, 2, 0);
        // Two are missing of 5, 5 and 5: after the first kilogram another one has most.
        Checks.masses(ticked(1, text + "8;load 5 5 5;"), 8, 3, 3, 2);
        // Two are missing, both of the material of which much is left.
        Checks.masses(ticked(1, text + "2;load 9 2 2;"), 8, 2, 0, 0);
        // None is missing.
        Checks.masses(ticked(1, text + "10;load 10 4 6;"), 8, 5, 2, 3);
        // One less than the total.
        RecyclingLine x = ticked(1, text + "5;load 3 3;");
        Checks.masses(x, 8, 3, 2, 0);
        Checks.masses(x, 16, 0, 1, 0);
        // The greatest heap that can be loaded.
        RecyclingLine y = ticked(1, "materials 6;station 0 0 1 0;set 0 200;load 999 999 999 999 999 999;");
        Checks.masses(y, 8, 34, 34, 33, 33, 33, 33);
        Checks.masses(y, 16, 965, 965, 966, 966, 966, 966);
    }

    private static void wholeHeaps() {
        Sentences.holds(0, "If p is the total or more, the whole heap is taken.");
        int[][] feeds = {{9, 7, 2, 1, 1}, {10, 7, 3, 0, 0}, {11, 7, 3, 0, 0}, {200, 7, 3, 0, 0}};
        for (int[] feed : feeds) {
            RecyclingLine x = ticked(1, "materials 2;station 0 0 1 0;set 0 " + feed[0] + ";load 7 3;");
            Checks.masses(x, 8, feed[1], feed[2]);
            Checks.due("what is left of 10 by " + feed[0], x.balance(1), (long) feed[3]);
            Checks.due("parcels then", x.line(4), feed[4]);
        }
        // A bunker of just a bale.
        RecyclingLine y = ticked(1, "materials 2;station 0 9 50 30;set 0 200;set 1 26;load 20 6;");
        Checks.due("the whole bunker", y.bale(0, 5) * 100 + y.bale(0, 6), 2006);
        Checks.masses(y, 0, 0, 0);
    }

    private static void hopperOfThirty() {
        Sentences.holds(0, "The hopper holds at most 30 parcels, one behind the other.");
        StringBuilder text = new StringBuilder("materials 1;station 0 0 1 0;set 0 200;set 5 0;");
        for (int i = 1; i <= 29; i++) {
            text.append("load ").append(i).append(";");
        }
        RecyclingLine x = Checks.lineOf(text.toString());
        Checks.due("parcels", x.line(4), 29);
        Checks.due("one more", x.load(0, 30), 30);
        Checks.dueThrow("two more", STATE, () -> x.load(0, 31));
        for (int i = 0; i < 30; i++) {
            Checks.due("parcel " + i, x.mass(16 + i, 0), i + 1);
        }
        for (int i = 1; i <= 30; i++) {
            x.run(1);
            Checks.due("the parcel fed in tick " + i, x.mass(8, 0), i);
            Checks.due("parcels left", x.line(4), 30 - i);
        }
        x.run(1);
        Checks.due("the hopper is empty", x.line(5), 0);
    }

    private static void hopperInUse() {
        Sentences.holds(0, "one behind the other");
        StringBuilder text = new StringBuilder("materials 1;station 0 0 1 0;set 0 200;set 5 0;");
        for (int i = 1; i <= 30; i++) {
            text.append("load ").append(i).append(";");
        }
        // More parcels than it ever holds go through it; what is undone and loaded again stands where it stood.
        RecyclingLine x = Checks.lineOf(text.toString());
        RecyclingLine undone = Checks.lineOf(text.toString());
        for (int i = 31; i <= 70; i++) {
            undone.run(1);
            undone.load(0, 999);
            undone.undo();
            Checks.due("no parcel in the last place", undone.mass(45, 0), 0);
            x.run(1);
            parcelsUpTo(i, x);
            parcelsUpTo(i, undone);
        }
    }

    private static void parcelsUpTo(int last, RecyclingLine x) {
        Checks.due("load", x.load(0, last), 30);
        Checks.due("the first one", x.mass(16, 0), last - 29);
        Checks.due("the last one", x.mass(45, 0), last);
        Checks.due("all of them", x.balance(1), 30L * last - 29 * 15);
    }

    private static void roundsOfWhatIsLoaded() {
        Sentences.holds(0, "A parcel is a heap with a number of rounds (0 for what is loaded).");
        RecyclingLine x = ticked(1, "materials 1;station 0 0 1 0;load 5;");
        Checks.due("loaded by a text", x.station(0, 8), 0);
        RecyclingLine y = new RecyclingLine();
        y.load(0, 5);
        y.run(1);
        Checks.due("loaded by load()", y.station(0, 8), 0);
        // In a place of the hopper that a parcel with rounds had before.
        RecyclingLine z = ticked(1, "materials 1;station 0 0 1 0;set 0 10;set 5 5;" + "load 10;".repeat(30));
        for (int tick = 0; tick < 33; tick++) {
            z.run(1);
        }
        z.set(5, 0);
        z.run(29);
        Checks.due("nothing is left but what is on the belt", z.line(4), 0);
        z.load(0, 7);
        z.run(1);
        Checks.due("its mass", z.station(0, 7), 7);
        Checks.due("its rounds", z.station(0, 8), 0);
    }

    private static void stationNumbers() {
        Sentences.holds(0, "There are 1 to 8 stations, numbered from 0 along the belt.");
        Checks.refuses("materials 1;^", 1);
        Checks.refuses("materials 1;" + "station 0 0 1 0;".repeat(8) + "^station 0 0 1 0;", 5);
        for (int stations = 1; stations <= 8; stations++) {
            StringBuilder text = new StringBuilder("materials 1;");
            for (int i = 0; i < stations; i++) {
                text.append("station 0 0 ").append(i + 1).append(" 0;");
            }
            RecyclingLine x = Checks.lineOf(text + "load 5;");
            int none = stations;
            Checks.due("stations", x.line(1), stations);
            Checks.due("the first one", x.station(0, 2), 1);
            Checks.due("the last one", x.station(stations - 1, 2), stations);
            Checks.dueThrow("one more", INDEX, () -> x.station(none, 0));
            for (int i = 0; i < stations; i++) {
                x.run(1);
                Checks.due("the parcel comes to station " + i, x.station(i, 7), 5);
            }
        }
    }

    private static void stationRanges() {
        Sentences.holds(0, "A station has a target (a material), pickers (0 to 9), a rate (1 to 50), an error (0 to"
            + " 30), a tiredness (0 to 60, at first 0), a slot of the belt in front of it (a parcel, or empty), and a"
            + " bunker (a heap).");
        RecyclingLine x = Checks.lineOf("materials 6;station 0 0 1 0;station 5 9 50 30;");
        Checks.properties(x, 0, 0, 0, 1, 0, 0, 0, 0, 0, -1, 0, 0);
        Checks.properties(x, 1, 5, 9, 50, 30, 0, 450, 0, 0, -1, 0, 0);
        String text = "materials 6;station 0 0 1 0;station ";
        Checks.refuses(text + "^6 0 1 0;", 2);
        Checks.refuses(text + "0 ^10 1 0;", 2);
        Checks.refuses(text + "0 0 ^0 0;", 2);
        Checks.refuses(text + "0 0 ^51 0;", 2);
        Checks.refuses(text + "0 0 1 ^31;", 2);
    }

    private static void capacities() {
        Sentences.holds(0, "Its capacity is pickers * rate * (100 - tiredness) / 100.");
        int[][] stations = {{0, 50, 0}, {9, 50, 450}, {1, 1, 1}, {9, 1, 9}, {1, 50, 50}};
        for (int[] station : stations) {
            RecyclingLine x = Checks.lineOf("materials 1;station 0 " + station[0] + " " + station[1] + " 0;");
            Checks.due("capacity of " + station[0] + " with " + station[1], x.station(0, 5), station[2]);
        }
        RecyclingLine least = ticked(1, "materials 1;station 0 1 1 0;load 5;");
        Checks.due("1 * 1 * 99 / 100", least.station(0, 5), 0);
        RecyclingLine x = ticked(12, "materials 1;station 0 9 50 0;set 0 1;set 6 5;load 99;");
        Checks.due("9 * 50 * 40 / 100", x.station(0, 5), 180);
        RecyclingLine y = ticked(13, "materials 1;station 0 7 13 0;set 0 1;set 6 5;load 99;");
        Checks.due("7 * 13 * 40 / 100", y.station(0, 5), 36);
        // Only the whole is rounded down: 3 * 33 / 100 are 0 for each picker.
        RecyclingLine z = ticked(1, "materials 1;station 0 3 33 0;load 99;");
        Checks.due("3 * 33 * 99 / 100", z.station(0, 5), 98);
    }

    private static void settings() {
        Sentences.holds(0, "Settings, numbered from 0, with their ranges and first values: 0 feed (1 to 200, 50), 1"
            + " bale (20 to 500, 100), 2 limit A (0 to 100, 95), 3 limit B (0 to 100, 85), 4 loop (0 to 100, 20), 5"
            + " rounds (0 to 5, 2), 6 tiring (0 to 5, 1), 7 claim (0 to 20, 2).");
        int[][] due = {{1, 200, 50}, {20, 500, 100}, {0, 100, 95}, {0, 100, 85}, {0, 100, 20}, {0, 5, 2}, {0, 5, 1}, {0, 20, 2}};
        RecyclingLine x = new RecyclingLine();
        String line = "materials 1;station 0 0 1 0;set ";
        for (int what = 0; what < 8; what++) {
            int asked = what;
            int[] range = due[what];
            Checks.due("setting of a new object", x.setting(what), range[2]);
            Checks.due("the least", x.set(what, range[0]), range[2]);
            Checks.due("the greatest", x.set(what, range[1]), range[0]);
            Checks.dueThrow("one less", IllegalArgumentException.class, () -> x.set(asked, range[0] - 1));
            Checks.dueThrow("one more", IllegalArgumentException.class, () -> x.set(asked, range[1] + 1));
            Checks.due("the least in a text", Checks.lineOf(line + what + " " + range[0] + ";").setting(what), range[0]);
            Checks.due("the greatest in a text", Checks.lineOf(line + what + " " + range[1] + ";").setting(what), range[1]);
            Checks.refuses(line + what + " ^" + (range[1] + 1) + ";", 2);
            if (range[0] > 0) {
                Checks.refuses(line + what + " ^" + (range[0] - 1) + ";", 2);
            }
        }
        Checks.refuses(line + "^8 1;", 2);
    }

    private static void leavingTheBelt() {
        Sentences.holds(0, "The parcel in the last slot, if there is one, leaves the belt.");
        for (int stations = 1; stations <= 8; stations++) {
            RecyclingLine x = ticked(stations, "materials 2;" + "station 0 0 1 0;".repeat(stations) + "load 0 9;");
            Checks.due("it is in the last of " + stations, x.station(stations - 1, 7), 9);
            Checks.due("not in the residue", x.balance(6), 0L);
            x.run(1);
            Checks.due("it left " + stations, x.station(stations - 1, 7), 0);
            Checks.due("the belt is empty", x.line(5), 0);
            Checks.due("into the residue", x.balance(6), 9L);
            x.run(1);
            Checks.due("from an empty slot nothing comes", x.balance(6), 9L);
            Checks.due("nothing goes round", x.line(4) + x.line(5), 0);
        }
    }

    private static void targetsOfSomeStation() {
        Sentences.holds(0, "Let R be its mass of all materials that are the target of some station.");
        // 25 of each of four materials, and a loop of 50: two materials must be targets.
        String[][] cases = {{"station 0 0 1 0;", "0"}, {"station 0 0 1 0;station 3 0 1 0;", "1"},
            {"station 0 0 1 0;station 0 0 1 0;", "0"}, {"station 3 0 1 0;station 1 0 1 0;station 1 0 1 0;", "1"}};
        for (String[] one : cases) {
            RecyclingLine x = Checks.lineOf("materials 4;" + one[0] + "set 0 200;set 4 50;load 25 25 25 25;");
            Checks.due("goes round with " + one[0], x.outlook(x.line(1) + 1, 3), Integer.parseInt(one[1]));
        }
    }

    private static int roundsOf(String load, int loop) {
        return Checks.lineOf("materials 2;station 0 0 1 0;set 0 200;set 5 1;set 4 " + loop + ";load " + load + ";").outlook(9, 3);
    }

    private static void loopShare() {
        Sentences.holds(0, "If R * 100 / total is at least loop");
        Checks.due("20 of 100 with 20", roundsOf("20 80", 20), 1);
        Checks.due("20 of 100 with 21", roundsOf("20 80", 21), 0);
        Checks.due("20 of 100 with 19", roundsOf("20 80", 19), 1);
        Checks.due("20 of 101 with 20", roundsOf("20 81", 20), 0);
        Checks.due("20 of 101 with 19", roundsOf("20 81", 19), 1);
        Checks.due("all with 100", roundsOf("200", 100), 1);
        Checks.due("199 of 200 with 100", roundsOf("199 1", 100), 0);
        Checks.due("199 of 200 with 99", roundsOf("199 1", 99), 1);
        Checks.due("1 of 1 with 100", roundsOf("1", 100), 1);
    }

    private static void atLeastOneKilogram() {
        Sentences.holds(0, "R is at least 1");
        Checks.due("none of 200 with 0", roundsOf("0 200", 0), 0);
        Checks.due("1 of 200 with 0", roundsOf("1 199", 0), 1);
        Checks.due("2 of 200 with 0", roundsOf("2 198", 0), 1);
        Checks.due("none of 1 with 0", roundsOf("0 1", 0), 0);
    }

    private static void roundsAllowed() {
        Sentences.holds(0, "its rounds are less than the setting rounds",
            "with one round more; otherwise its heap goes to the residue");
        for (int rounds = 0; rounds <= 5; rounds++) {
            RecyclingLine x = Checks.lineOf("materials 1;station 0 0 1 0;set 5 " + rounds + ";load 9;");
            for (int made = 0; made <= rounds; made++) {
                x.run(1);
                Checks.due("rounds made with " + rounds, x.station(0, 8), made);
                Checks.due("residue", x.balance(6), 0L);
            }
            x.run(1);
            Checks.due("nothing is left after " + rounds, x.line(4) + x.line(5), 0);
            Checks.due("residue after " + rounds, x.balance(6), 9L);
        }
        // The setting as it is when the parcel leaves.
        RecyclingLine y = ticked(3, "materials 1;station 0 0 1 0;set 5 5;load 9;");
        y.set(5, 2);
        Checks.due("two rounds made, two allowed", y.outlook(1, 2), 9);
        y.set(5, 3);
        Checks.due("two rounds made, three allowed", y.outlook(1, 2), 0);
        y.set(5, 0);
        Checks.due("two rounds made, none allowed", y.outlook(1, 2), 9);
    }

    private static void heapsOfTheResidue() {
        Sentences.holds(0, "otherwise its heap goes to the residue");
        RecyclingLine x = ticked(3, "materials 3;station 0 0 1 0;set 0 200;set 5 0;load 1 2 3;load 10 20 30;load 100 40 5;");
        Checks.masses(x, 46, 11, 22, 33);
        Checks.due("residue", x.balance(6), 66L);
        x.run(1);
        Checks.masses(x, 46, 111, 62, 38);
        Checks.due("residue", x.balance(6), 211L);
    }

    private static void placeInTheHopper() {
        Sentences.holds(0, "and the hopper holds fewer than 30 parcels");
        String text = "materials 1;station 0 0 1 0;set 0 1;load 3;";
        RecyclingLine full = ticked(2, text + "load 1;".repeat(29));
        Checks.due("30 parcels", full.line(4), 30);
        Checks.due("the one that left is residue", full.balance(6), 1L);
        RecyclingLine place = ticked(2, text + "load 1;".repeat(28));
        Checks.due("29 parcels and the one that left", place.line(4), 30);
        Checks.due("no residue", place.balance(6), 0L);
        place.run(1);
        Checks.due("now there are 30", place.balance(6), 1L);
        // The place that the first parcel leaves in the same tick comes too late.
        RecyclingLine late = ticked(1, "materials 1;station 0 0 1 0;set 0 2;load 2;load 1;" + "load 1;".repeat(28));
        late.load(0, 1);
        Checks.due("30 parcels", late.line(4), 30);
        late.run(1);
        Checks.due("29 parcels then", late.line(4), 29);
        Checks.due("and residue", late.balance(6), 2L);
    }

    private static void lastInTheHopper() {
        Sentences.holds(0, "it is put into the hopper as the last one");
        RecyclingLine x = ticked(2, "materials 1;station 0 0 1 0;set 0 10;load 12;load 3;load 4;");
        Checks.due("parcels", x.line(4), 3);
        Checks.due("the first then", x.mass(16, 0) + x.mass(17, 0) * 10, 43);
        Checks.due("the last one", x.mass(18, 0), 10);
        Checks.due("fed in its stead", x.mass(8, 0), 2);
        // Into an empty hopper it is the first one as well, and is fed in the same tick.
        RecyclingLine y = ticked(2, "materials 1;station 0 0 1 0;load 9;");
        Checks.due("on the belt again", y.station(0, 7), 9);
        Checks.due("with one round", y.station(0, 8), 1);
        Checks.due("the hopper", y.line(4), 0);
    }

    private static void movingOn() {
        Sentences.holds(0, "Each other parcel on the belt moves on by one slot.");
        RecyclingLine x = Checks.lineOf("materials 2;" + "station 0 0 1 0;".repeat(8) + "set 0 10;load 0 10;load 0 1;load 0 3;");
        int[] parcels = {10, 1, 3};
        for (int tick = 0; tick < 11; tick++) {
            x.run(1);
            for (int slot = 0; slot < 8; slot++) {
                int parcel = tick - slot;
                Checks.due("slot " + slot + " in tick " + tick, x.station(slot, 7), parcel >= 0 && parcel < 3 ? parcels[parcel] : 0);
            }
        }
        Checks.due("all have left", x.balance(6), 14L);
    }

    private static void feeding() {
        Sentences.holds(0, "Of the first parcel in the hopper, if there is one, a portion of feed kilograms is taken");
        // Of one parcel only, also if it has less than the feed.
        int[][] cases = {{49, 49, 70, 1}, {50, 50, 70, 1}, {51, 50, 1, 2}};
        for (int[] one : cases) {
            RecyclingLine x = ticked(1, "materials 1;station 0 0 1 0;load " + one[0] + ";load 70;");
            Checks.due("fed of " + one[0], x.station(0, 7), one[1]);
            Checks.due("the first one then", x.mass(16, 0), one[2]);
            Checks.due("parcels", x.line(4), one[3]);
        }
        RecyclingLine least = ticked(1, "materials 1;station 0 0 1 0;set 0 1;load 2;");
        Checks.due("a feed of 1", least.station(0, 7), 1);
        RecyclingLine most = ticked(1, "materials 1;station 0 0 1 0;set 0 200;load 201;");
        Checks.due("a feed of 200", most.station(0, 7), 200);
        RecyclingLine none = ticked(1, "materials 1;station 0 0 1 0;");
        Checks.due("of an empty hopper", none.line(5), 0);
        Checks.due("the slot stays empty", none.station(0, 8), -1);
    }

    private static void feedingRounds() {
        Sentences.holds(0, "and put as a parcel with the same rounds into slot 0");
        RecyclingLine x = ticked(2, "materials 1;station 0 0 1 0;set 0 9;load 9;");
        x.set(0, 4);
        x.run(1);
        Checks.due("the whole of it made its second round", x.station(0, 8), 2);
        Checks.due("a portion of it", x.station(0, 7), 4);
        x.run(1);
        Checks.due("what was left has the same rounds", x.station(0, 8), 2);
        Checks.due("its next portion", x.station(0, 7), 4);
        x.run(1);
        Checks.due("and the last one", x.station(0, 7) * 10 + x.station(0, 8), 12);
        Checks.due("residue of both", x.balance(6), 8L);
    }

    private static void firstOfTheHopper() {
        Sentences.holds(0, "what is left stays the first parcel of the hopper (if nothing is left, the next one is"
            + " the first then)");
        RecyclingLine x = ticked(1, "materials 2;station 0 0 1 0;set 0 10;set 5 0;load 0 11;load 0 10;load 0 5;");
        Checks.masses(x, 16, 0, 1);
        Checks.masses(x, 17, 0, 10);
        Checks.due("one kilogram is left", x.line(4), 3);
        x.run(1);
        Checks.masses(x, 8, 0, 1);
        Checks.masses(x, 16, 0, 10);
        Checks.due("nothing is left", x.line(4), 2);
        x.run(1);
        Checks.masses(x, 8, 0, 10);
        Checks.masses(x, 16, 0, 5);
        x.run(1);
        Checks.masses(x, 8, 0, 5);
        Checks.due("the last one", x.line(4), 0);
        x.run(1);
        Checks.due("none", x.line(5), 0);
    }

    private static void pickingTheTarget() {
        Sentences.holds(0, "the station picks from the parcel in its slot (if there is none, P is 0): of its target"
            + " as much as there is, at most its capacity; let P be that");
        int[][] cases = {{9, 9}, {10, 10}, {11, 10}, {1, 1}, {0, 0}};
        for (int[] one : cases) {
            RecyclingLine x = ticked(1, "materials 2;station 1 1 10 0;load 5 " + one[0] + ";");
            Checks.due("picked of " + one[0], x.mass(0, 1), one[1]);
            Checks.due("left of " + one[0], x.mass(8, 1), one[0] - one[1]);
            Checks.due("picked so far", x.station(0, 10), one[1]);
            Checks.masses(x, 8, 5);
        }
        RecyclingLine most = ticked(1, "materials 1;station 0 9 50 0;set 0 200;set 1 500;load 200;");
        Checks.due("a parcel of the greatest feed", most.mass(0, 0), 200);
        // The capacity is that of the tiredness ahead of the tick.
        RecyclingLine tired = ticked(2, "materials 1;station 0 1 50 0;set 0 100;set 6 5;load 200;");
        Checks.due("50, and 47 of 50 * 95 / 100", tired.mass(0, 0), 97);
        // Each station picks of what the ones ahead of it left.
        RecyclingLine two = ticked(2, "materials 1;station 0 1 10 0;station 0 1 10 0;load 15;");
        Checks.due("the first of two", two.mass(0, 0), 10);
        Checks.due("the second of two", two.mass(1, 0), 5);
    }

    private static void pickingNothing() {
        Sentences.holds(0, "(if there is none, P is 0)");
        RecyclingLine x = ticked(1, "materials 1;station 0 1 9 30;set 6 5;load 9;");
        Checks.due("tired of a parcel", x.station(0, 4), 5);
        x.run(1);
        Checks.due("not of an empty slot", x.station(0, 4), 3);
        Checks.due("nothing more is picked", x.station(0, 10), 9);
    }

    private static void pickingOthers() {
        Sentences.holds(0, "Then, of that other material of which most is in the parcel (of several the lowest one),"
            + " as much as there is, at most P * error / 100.");
        String text = "materials 4;station 1 9 50 ";
        int[][] errors = {{0, 0}, {1, 1}, {29, 29}, {30, 30}};
        for (int[] error : errors) {
            RecyclingLine x = ticked(1, text + error[0] + ";set 0 200;set 1 500;load 0 100 0 50;");
            Checks.masses(x, 0, 0, 100, 0, error[1]);
            Checks.due("picked in all", x.station(0, 10), 100 + error[1]);
        }
        // 3 * 30 / 100 and 33 * 3 / 100 are 0, 4 * 30 / 100 and 34 * 3 / 100 are 1.
        Checks.masses(ticked(1, text + "30;load 9 3;"), 0, 0, 3, 0, 0);
        Checks.masses(ticked(1, text + "30;load 9 4;"), 0, 1, 4, 0, 0);
        Checks.masses(ticked(1, text + "3;load 9 33;"), 0, 0, 33, 0, 0);
        Checks.masses(ticked(1, text + "3;load 9 34;"), 0, 1, 34, 0, 0);
        // As much as there is, of one other material only.
        Checks.masses(ticked(1, text + "30;load 2 40 2 2;"), 0, 2, 40, 0, 0);
        Checks.masses(ticked(1, text + "30;load 2 40 2 3;"), 0, 0, 40, 0, 3);
        Checks.masses(ticked(1, text + "30;load 11 30 9;"), 0, 9, 30, 0, 0);
        Checks.masses(ticked(1, text + "30;load 9 30 11;"), 0, 0, 30, 9, 0);
        // The target is no other material, although most is left of it.
        Checks.masses(ticked(1, "materials 4;station 1 1 10 30;load 2 40 1 1;"), 0, 2, 10, 0, 0);
        // No others if there is none of the target, or no capacity.
        Checks.masses(ticked(1, text + "30;load 40 0 9;"), 0, 0, 0, 0, 0);
        Checks.masses(ticked(1, "materials 4;station 1 0 50 30;load 20 20;"), 0, 0, 0, 0, 0);
        Checks.masses(ticked(1, "materials 1;station 0 9 50 30;load 40;"), 0, 40);
    }

    private static void fillingTheBunker() {
        Sentences.holds(0, "What was picked goes to its bunker.");
        RecyclingLine x = ticked(2, "materials 2;station 0 1 10 30;station 1 1 10 0;load 30 20;");
        Checks.masses(x, 0, 10, 3);
        Checks.masses(x, 1, 0, 10);
        Checks.masses(x, 9, 20, 7);
        Checks.due("in bunkers", x.balance(3), 23L);
        Checks.due("on the belt", x.balance(2), 27L);
        x.load(0, 2);
        x.run(1);
        Checks.masses(x, 0, 12, 3);
    }

    private static void growingTired() {
        Sentences.holds(0, "If P is at least 1, its tiredness grows by tiring, to at most 60; otherwise it shrinks by"
            + " 2, to at least 0.");
        for (int tiring = 0; tiring <= 5; tiring++) {
            RecyclingLine x = ticked(1, "materials 1;station 0 1 1 0;set 6 " + tiring + ";load 1;");
            Checks.due("P is 1", x.station(0, 4), tiring);
            x.run(1);
            Checks.due("P is 0, after " + tiring, x.station(0, 4), Math.max(tiring - 2, 0));
            x.run(1);
            Checks.due("P is 0 again", x.station(0, 4), Math.max(tiring - 4, 0));
            x.run(1);
            Checks.due("and again", x.station(0, 4), Math.max(tiring - 6, 0));
        }
        Checks.due("of others alone no one tires", ticked(1, "materials 2;station 0 9 9 30;load 0 9;").station(0, 4), 0);
        Checks.due("without pickers neither", ticked(1, "materials 1;station 0 0 9 30;load 9;").station(0, 4), 0);
        RecyclingLine most = ticked(19, "materials 1;station 0 9 50 0;set 0 1;set 6 3;load 99;");
        Checks.due("19 * 3", most.station(0, 4), 57);
        Checks.due("60", most.outlook(1, 4), 60);
        most.set(6, 4);
        Checks.due("61 are 60", most.outlook(1, 4), 60);
        most.set(6, 2);
        Checks.due("59", most.outlook(1, 4), 59);
        most.set(6, 5);
        most.run(2);
        Checks.due("60 stay", most.station(0, 4), 60);
        most.set(6, 0);
        most.run(1);
        Checks.due("also without tiring", most.station(0, 4), 60);
        most.run(78);
        Checks.due("one tick after the last parcel", most.station(0, 4), 58);
    }

    private static void parcelsPickedEmpty() {
        Sentences.holds(0, "A parcel whose total is 0 then is gone from the belt.");
        RecyclingLine x = ticked(1, "materials 2;station 0 1 50 10;station 0 0 1 0;load 40 4;");
        Checks.properties(x, 0, 0, 1, 50, 10, 1, 49, 44, 0, -1, 0, 44);
        Checks.due("belt", x.line(5), 0);
        Checks.masses(x, 8, 0, 0);
        x.run(1);
        Checks.due("nothing moves on", x.station(1, 8), -1);
        RecyclingLine y = ticked(1, "materials 2;station 0 1 50 10;station 0 0 1 0;load 40 5;");
        Checks.due("one kilogram stays", y.station(0, 7), 1);
        Checks.due("belt", y.line(5), 1);
        y.run(1);
        Checks.due("and moves on", y.station(1, 7), 1);
        // It goes neither round nor to the residue.
        RecyclingLine z = ticked(3, "materials 1;station 0 9 50 0;set 4 0;load 9;");
        Checks.due("nothing goes round or is residue", z.line(4) + z.line(5) + z.balance(6), 0L);
    }
}
