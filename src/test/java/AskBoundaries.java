/** The boundaries of promises 7 to 15, what can be asked about a line, and of NONE. */
final class AskBoundaries {
    private static final Class<IndexOutOfBoundsException> INDEX = IndexOutOfBoundsException.class;
    private static final Class<IllegalArgumentException> ARGUMENT = IllegalArgumentException.class;
    private static final int[] FAR = {Integer.MIN_VALUE, -1000, 1000, Integer.MAX_VALUE};

    /** It presses three bales of 20 in its first tick: of 16 and 4, 16 and 4, 15 and 5. */
    private static final String BALES = "materials 2;station 0 9 50 30;set 1 20;set 0 200;load 60 40;";

    private AskBoundaries() {
    }

    static void all() {
        Checks.each(AskBoundaries::none, AskBoundaries::linesOfAnEmptyLine, AskBoundaries::linesAtTheirGreatest,
            AskBoundaries::soldAndSentBack, AskBoundaries::claimsOfNothing, AskBoundaries::lineOfOthers,
            AskBoundaries::settingValues, AskBoundaries::noSuchSetting, AskBoundaries::emptyStation,
            AskBoundaries::emptySlot, AskBoundaries::countsOfAStation, AskBoundaries::noSuchStation,
            AskBoundaries::noSuchStationProperty, AskBoundaries::placesOfBunkersAndSlots,
            AskBoundaries::placesOfTheHopper, AskBoundaries::placesWhereNothingIs, AskBoundaries::noSuchPlace,
            AskBoundaries::noSuchMaterialOfAPlace, AskBoundaries::baleProperties, AskBoundaries::baleIndexes,
            AskBoundaries::noSuchBaleProperty, AskBoundaries::buyerProperties, AskBoundaries::noSuchBuyer,
            AskBoundaries::noSuchBuyerProperty, AskBoundaries::balances, AskBoundaries::balanceOfOthers,
            AskBoundaries::purityOfNone, AskBoundaries::puritiesOfAllBales, AskBoundaries::purityOfNoSuchMaterial,
            AskBoundaries::losses);
    }

    private static RecyclingLine ticked(int ticks, String text) {
        RecyclingLine x = Checks.lineOf(text);
        x.run(ticks);
        return x;
    }

    private static void none() {
        Sentences.holds(0, "NONE = -1: Returned when there is no such value.");
        RecyclingLine x = new RecyclingLine();
        Checks.due("NONE", RecyclingLine.NONE, -1);
        Checks.due("line(11)", x.line(11), -1);
        Checks.due("station(0, 8)", x.station(0, 8), -1);
        Checks.due("balance(8)", x.balance(8), -1L);
        Checks.due("find", x.find(), -1);
        Checks.due("undo", x.undo(), -1);
        Checks.type(x, " ".repeat(700));
        Checks.due("append", x.append(0, 0, 0, 0, 0), -1);
    }

    private static void linesOfAnEmptyLine() {
        Sentences.holds(7, "what: 0 the materials, 1 the stations, 2 the buyers, 3 the ticks made, 4 the parcels in"
            + " the hopper, 5 the parcels on the belt, 6 the bales in stock, 7 the bales pressed so far, 8 the bales"
            + " sold", "Returns a property of the line.", "9 the bales sent back, 10 the claims");
        RecyclingLine x = new RecyclingLine();
        int[] least = {1, 1, 0, 0, 0, 0, 0, 0, 0, 0, 0};
        for (int what = 0; what <= 10; what++) {
            Checks.due("line(" + what + ")", x.line(what), least[what]);
        }
        x.run(200);
        least[3] = 200;
        for (int what = 0; what <= 10; what++) {
            Checks.due("line(" + what + ") after 200 ticks of nothing", x.line(what), least[what]);
        }
    }

    private static void linesAtTheirGreatest() {
        Sentences.holds(7, "0 the materials, 1 the stations, 2 the buyers, 3 the ticks made, 4 the parcels in the"
            + " hopper, 5 the parcels on the belt, 6 the bales in stock, 7 the bales pressed so far");
        // 800 of material 5 for 40 bales, then what no station picks any more.
        RecyclingLine x = Checks.lineOf("materials 6;station 5 9 50 0;" + "station 4 0 1 0;".repeat(7)
            + "set 0 200;set 1 20;set 6 0;set 5 0;"
            + "buyer a 0 0 1 0 0;buyer b 5 0 1 0 0;buyer c 0 0 1 0 0;buyer d 0 0 1 0 0;"
            + "load 0 0 0 0 0 800;" + "load 1;".repeat(20));
        x.run(4);
        Checks.due("materials", x.line(0), 6);
        Checks.due("stations", x.line(1), 8);
        Checks.due("buyers", x.line(2), 4);
        Checks.due("ticks", x.line(3), 4);
        Checks.due("belt", x.line(5), 0);
        Checks.due("stock", x.line(6), 40);
        Checks.due("pressed", x.line(7), 40);
        x.run(8);
        Checks.due("belt", x.line(5), 8);
        Checks.due("hopper", x.line(4), 12);
        for (int parcels = 13; parcels <= 30; parcels++) {
            x.load(0, 1);
        }
        Checks.due("hopper", x.line(4), 30);
        x.sell(0, 1);
        Checks.due("stock", x.line(6), 39);
        Checks.due("pressed", x.line(7), 40);
    }

    private static void soldAndSentBack() {
        Sentences.holds(7, "8 the bales sold (those sent back not counted), 9 the bales sent back");
        RecyclingLine x = ticked(1, BALES + "buyer a 0 2 100 99 24;buyer b 0 2 100 99 19;");
        Checks.due("sold", x.sell(0, 0), 40);
        Checks.due("sold and sent back", x.line(8) * 10 + x.line(9), 10);
        Checks.due("sent back: limit 19", x.sell(0, 1), -1);
        Checks.due("sold and sent back", x.line(8) * 10 + x.line(9), 11);
        Checks.due("sent back: limit 24", x.sell(0, 0), -1);
        Checks.due("sold and sent back", x.line(8) * 10 + x.line(9), 12);
        x.undo();
        Checks.due("sold and sent back", x.line(8) * 10 + x.line(9), 11);
    }

    private static void claimsOfNothing() {
        Sentences.holds(7, "10 the claims (a claim of 0 is counted, too, where the impurity is greater than the"
            + " tolerance)");
        // Tolerance, claim, what is paid for an impurity of 20, and the claims.
        int[][] cases = {{20, 20, 40, 0}, {19, 0, 40, 1}, {19, 1, 39, 1}, {21, 20, 40, 0}};
        for (int[] one : cases) {
            RecyclingLine x = ticked(1, BALES + "set 7 " + one[1] + ";buyer a 0 2 100 " + one[0] + " 20;");
            Checks.due("paid with " + one[0] + " and " + one[1], x.sell(0, 0), one[2]);
            Checks.due("claims with " + one[0] + " and " + one[1], x.line(10), one[3]);
        }
        RecyclingLine least = ticked(1, BALES + "set 7 1;buyer a 0 2 99 19 20;");
        Checks.due("39 less 99 * 1 * 1 / 100", least.sell(0, 0), 39);
        Checks.due("claims of 0 by rounding", least.line(10), 1);
        RecyclingLine back = ticked(1, BALES + "buyer a 0 2 99 0 19;");
        back.sell(0, 0);
        Checks.due("what is sent back makes no claim", back.line(10), 0);
        RecyclingLine two = ticked(1, BALES + "buyer a 0 2 99 19 99;");
        two.sell(0, 0);
        two.sell(0, 0);
        Checks.due("two claims", two.line(10), 2);
        two.undo();
        Checks.due("one was undone", two.line(10), 1);
        two.sell(0, 0);
        two.sell(0, 0);
        Checks.due("three claims", two.line(10), 3);
    }

    private static void lineOfOthers() {
        Sentences.holds(7, "Returns the property; NONE for any other what.");
        RecyclingLine x = ticked(1, BALES);
        Checks.due("line(-1)", x.line(-1), -1);
        Checks.due("line(11)", x.line(11), -1);
        for (int what : FAR) {
            Checks.due("line(" + what + ")", x.line(what), -1);
        }
    }

    private static void settingValues() {
        Sentences.holds(8, "Returns its value.", "what: a setting");
        RecyclingLine x = Checks.lineOf("materials 1;station 0 0 1 0;set 0 1;set 1 500;set 2 0;set 3 100;set 4 3;set 5 4;set 6 5;set 7 6;");
        int[] due = {1, 500, 0, 100, 3, 4, 5, 6};
        for (int what = 0; what < 8; what++) {
            Checks.due("setting(" + what + ")", x.setting(what), due[what]);
        }
        x.set(7, 20);
        Checks.due("setting(7)", x.setting(7), 20);
        Checks.due("setting(6)", x.setting(6), 5);
    }

    private static void noSuchSetting() {
        Sentences.holds(8, "Throws IndexOutOfBoundsException if there is no such setting");
        RecyclingLine x = new RecyclingLine();
        Checks.dueThrow("setting(-1)", INDEX, () -> x.setting(-1));
        Checks.due("setting(0)", x.setting(0), 50);
        Checks.due("setting(7)", x.setting(7), 2);
        Checks.dueThrow("setting(8)", INDEX, () -> x.setting(8));
        for (int what : FAR) {
            Checks.dueThrow("setting(" + what + ")", INDEX, () -> x.setting(what));
        }
    }

    private static void emptyStation() {
        Sentences.holds(9, "what: 0 its target, 1 its pickers, 2 its rate, 3 its error, 4 its tiredness, 5 its"
            + " capacity, 6 the total of its bunker", "Returns a property of a station.", "station: a station",
            "Returns the property.");
        RecyclingLine x = Checks.lineOf("materials 6;station 0 0 1 0;station 5 9 50 30;set 0 200;load 10 0 0 0 0 100;");
        Checks.properties(x, 0, 0, 0, 1, 0, 0, 0, 0, 0, -1, 0, 0);
        Checks.properties(x, 1, 5, 9, 50, 30, 0, 450, 0, 0, -1, 0, 0);
        x.set(1, 111);
        x.run(2);
        Checks.properties(x, 0, 0, 0, 1, 0, 0, 0, 0, 0, -1, 0, 0);
        Checks.properties(x, 1, 5, 9, 50, 30, 1, 445, 110, 0, -1, 0, 110);
    }

    private static void emptySlot() {
        Sentences.holds(9, "7 the total of the parcel in its slot (0 if it is empty), 8 the rounds of that parcel"
            + " (NONE if it is empty)");
        RecyclingLine x = Checks.lineOf("materials 1;station 0 0 1 0;set 5 1;load 1;");
        Checks.due("empty", x.station(0, 7) * 10 + x.station(0, 8), -1);
        x.run(1);
        Checks.due("one kilogram, no round", x.station(0, 7) * 10 + x.station(0, 8), 10);
        x.run(1);
        Checks.due("one kilogram, one round", x.station(0, 7) * 10 + x.station(0, 8), 11);
        x.run(1);
        Checks.due("empty again", x.station(0, 7) * 10 + x.station(0, 8), -1);
        RecyclingLine most = ticked(6, "materials 1;station 0 0 1 0;set 5 5;set 0 200;load 200;");
        Checks.due("as much and as often as can be", most.station(0, 7) * 10 + most.station(0, 8), 2005);
        RecyclingLine picked = ticked(2, "materials 1;station 0 0 1 0;station 0 1 1 0;load 1;");
        Checks.due("picked empty", picked.station(1, 7) * 10 + picked.station(1, 8), -1);
    }

    private static void countsOfAStation() {
        Sentences.holds(9, "9 the bales pressed from its bunker so far, 10 all that it has picked so far, of its"
            + " target and of others");
        RecyclingLine x = ticked(1, BALES + "station 1 1 10 0;buyer a 0 2 1 99 99;");
        Checks.due("pressed", x.station(0, 9), 3);
        Checks.due("picked: 60 and 18", x.station(0, 10), 78);
        Checks.due("by the other", x.station(1, 9) + x.station(1, 10), 0);
        x.sell(0, 0);
        x.clean(0);
        x.staff(0, 1);
        Checks.due("pressed stays", x.station(0, 9), 3);
        Checks.due("picked stays", x.station(0, 10), 78);
        x.run(1);
        Checks.due("picked by the other: 10 of 22", x.station(1, 10), 10);
        Checks.due("pressed by the other", x.station(1, 9), 0);
    }

    private static void noSuchStation() {
        Sentences.holds(9, "Throws IndexOutOfBoundsException if there is no such station");
        for (int stations = 1; stations <= 8; stations++) {
            RecyclingLine x = Checks.lineOf("materials 1;" + "station 0 0 1 0;".repeat(stations));
            int none = stations;
            Checks.due("the last one", x.station(stations - 1, 2), 1);
            Checks.dueThrow("one more", INDEX, () -> x.station(none, 2));
            Checks.dueThrow("one more, and no such property", INDEX, () -> x.station(none, 11));
            Checks.dueThrow("-1", INDEX, () -> x.station(-1, 2));
            Checks.dueThrow("-1, and no such property", INDEX, () -> x.station(-1, -1));
            for (int station : FAR) {
                Checks.dueThrow("station " + station, INDEX, () -> x.station(station, 0));
            }
        }
    }

    private static void noSuchStationProperty() {
        Sentences.holds(9, "Throws IllegalArgumentException if what is not 0 to 10");
        RecyclingLine x = new RecyclingLine();
        Checks.dueThrow("-1", ARGUMENT, () -> x.station(0, -1));
        Checks.due("0", x.station(0, 0), 0);
        Checks.due("10", x.station(0, 10), 0);
        Checks.dueThrow("11", ARGUMENT, () -> x.station(0, 11));
        for (int what : FAR) {
            Checks.dueThrow("what " + what, ARGUMENT, () -> x.station(0, what));
        }
    }

    private static void placesOfBunkersAndSlots() {
        Sentences.holds(10, "place: 0 to 7 the bunker of that station, 8 to 15 the parcel in the slot of station"
            + " (place - 8)", "Returns a mass.");
        StringBuilder text = new StringBuilder("materials 2;set 0 200;set 5 0;set 6 0;");
        for (int i = 1; i <= 8; i++) {
            text.append("station 0 1 ").append(i).append(" 0;");
        }
        for (int i = 1; i <= 8; i++) {
            text.append("load 40 ").append(i).append(";");
        }
        RecyclingLine x = ticked(8, text.toString());
        // Station i has had 8 - i parcels and picked i + 1 kilograms of each.
        for (int i = 0; i < 8; i++) {
            Checks.masses(x, i, (8 - i) * (i + 1), 0);
            Checks.masses(x, 8 + i, 40 - (i + 1) * (i + 2) / 2, 8 - i);
        }
    }

    private static void placesOfTheHopper() {
        Sentences.holds(10, "16 to 45 parcel (place - 16) of the hopper, from the first one on, 46 the residue");
        StringBuilder text = new StringBuilder("materials 2;station 0 0 1 0;set 0 1;load 1;");
        for (int i = 1; i < 30; i++) {
            text.append("load ").append(i).append(";");
        }
        RecyclingLine x = Checks.lineOf(text.toString());
        x.run(1);
        x.load(1, 999);
        Checks.due("parcels", x.line(4), 30);
        for (int i = 0; i < 29; i++) {
            Checks.masses(x, 16 + i, i + 1, 0);
        }
        Checks.masses(x, 45, 0, 999);
        x.run(1);
        Checks.masses(x, 46, 1, 0);
        Checks.masses(x, 44, 0, 999);
        Checks.masses(x, 45, 0, 0);
    }

    private static void placesWhereNothingIs() {
        Sentences.holds(10, "Returns its mass there (0 if there is no such parcel or station).");
        RecyclingLine x = new RecyclingLine();
        for (int place = 0; place <= 46; place++) {
            Checks.due("mass(" + place + ", 0)", x.mass(place, 0), 0);
        }
        for (int texts = 1; texts <= 3; texts++) {
            RecyclingLine once = ticked(3, "materials 1;" + "station 0 1 2 0;".repeat(8) + "set 0 20;" + "load 20;".repeat(30));
            for (int i = 0; i < texts; i++) {
                Checks.type(once, "materials 1;station 0 0 1 0;load 9;");
                once.read();
            }
            for (int place = 0; place <= 46; place++) {
                Checks.due("mass(" + place + ", 0), where there was something once", once.mass(place, 0), place == 16 ? 9 : 0);
            }
            once.run(1);
            for (int place = 0; place <= 46; place++) {
                Checks.due("mass(" + place + ", 0) after a tick", once.mass(place, 0), place == 8 ? 9 : 0);
            }
        }
    }

    private static void noSuchPlace() {
        Sentences.holds(10, "Throws IllegalArgumentException if place is not 0 to 46");
        RecyclingLine x = new RecyclingLine();
        Checks.dueThrow("-1", ARGUMENT, () -> x.mass(-1, 0));
        Checks.due("0", x.mass(0, 0), 0);
        Checks.due("46", x.mass(46, 0), 0);
        Checks.dueThrow("47", ARGUMENT, () -> x.mass(47, 0));
        Checks.dueThrow("47, and no such material", ARGUMENT, () -> x.mass(47, 1));
        Checks.dueThrow("-1, and no such material", ARGUMENT, () -> x.mass(-1, -1));
        for (int place : FAR) {
            Checks.dueThrow("place " + place, ARGUMENT, () -> x.mass(place, 0));
            Checks.dueThrow("place " + place + ", and no such material", ARGUMENT, () -> x.mass(place, 6));
        }
    }

    private static void noSuchMaterialOfAPlace() {
        Sentences.holds(10, "Throws IndexOutOfBoundsException if there is no such material", "material: a material");
        for (int materials = 1; materials <= 6; materials++) {
            RecyclingLine x = Checks.lineOf("materials " + materials + ";station 0 0 1 0;");
            int none = materials;
            // Also where there is nothing at all.
            for (int place : new int[] {0, 7, 8, 15, 16, 45, 46}) {
                Checks.due("the last one", x.mass(place, materials - 1), 0);
                Checks.dueThrow("one more", INDEX, () -> x.mass(place, none));
                Checks.dueThrow("-1", INDEX, () -> x.mass(place, -1));
            }
            for (int material : FAR) {
                Checks.dueThrow("material " + material, INDEX, () -> x.mass(0, material));
            }
        }
    }

    private static void baleProperties() {
        Sentences.holds(11, "what: 0 its serial number, 1 its material, 2 its total, 3 its purity, 4 its grade, 5 + m"
            + " (m a material) its mass of material m", "Returns a property of a bale in stock.",
            "Returns the property.");
        RecyclingLine x = ticked(1, BALES + "set 2 80;set 3 75;");
        int[][] due = {{0, 0, 20, 80, 0, 16, 4}, {1, 0, 20, 80, 0, 16, 4}, {2, 0, 20, 75, 1, 15, 5}};
        for (int bale = 0; bale < 3; bale++) {
            for (int what = 0; what < 7; what++) {
                Checks.due("bale(" + bale + ", " + what + ")", x.bale(bale, what), due[bale][what]);
            }
        }
        RecyclingLine y = ticked(1, "materials 6;station 5 9 50 30;set 0 200;set 1 26;load 1 2 3 4 6 20;");
        int[] six = {0, 5, 26, 76, 2, 0, 0, 0, 0, 6, 20};
        for (int what = 0; what < six.length; what++) {
            Checks.due("bale(0, " + what + ")", y.bale(0, what), six[what]);
        }
    }

    private static void baleIndexes() {
        Sentences.holds(11, "bale: an index into the stock, from 0, in the order in which they were pressed",
            "Throws IndexOutOfBoundsException if there is no such bale");
        RecyclingLine x = Checks.lineOf("materials 1;station 0 9 50 0;set 0 200;set 1 20;set 6 0;buyer a 0 0 1 0 0;load 800;");
        Checks.dueThrow("the first of none", INDEX, () -> x.bale(0, 0));
        Checks.dueThrow("the first of none, and no such property", INDEX, () -> x.bale(0, 6));
        x.run(4);
        for (int bale = 0; bale < 40; bale++) {
            Checks.due("bale " + bale, x.bale(bale, 0), bale);
        }
        Checks.dueThrow("bale 40 of 40", INDEX, () -> x.bale(40, 0));
        Checks.dueThrow("bale 40 of 40, and no such property", INDEX, () -> x.bale(40, -1));
        Checks.dueThrow("bale -1", INDEX, () -> x.bale(-1, 0));
        x.sell(7, 0);
        Checks.due("ahead of the one sold", x.bale(6, 0), 6);
        Checks.due("in its place", x.bale(7, 0), 8);
        Checks.due("the last one", x.bale(38, 0), 39);
        Checks.dueThrow("bale 39 of 39", INDEX, () -> x.bale(39, 0));
        for (int bale : FAR) {
            Checks.dueThrow("bale " + bale, INDEX, () -> x.bale(bale, 0));
        }
    }

    private static void noSuchBaleProperty() {
        Sentences.holds(11, "Throws IllegalArgumentException if what is not 0 to 4 + the number of materials");
        for (int materials = 1; materials <= 6; materials++) {
            RecyclingLine x = ticked(1, "materials " + materials + ";station 0 9 50 0;set 1 20;load 20;");
            int last = 4 + materials;
            Checks.dueThrow("-1", ARGUMENT, () -> x.bale(0, -1));
            Checks.due("0", x.bale(0, 0), 0);
            Checks.due("the last one", x.bale(0, last), materials == 1 ? 20 : 0);
            Checks.dueThrow("one more", ARGUMENT, () -> x.bale(0, last + 1));
            for (int what : FAR) {
                Checks.dueThrow("what " + what, ARGUMENT, () -> x.bale(0, what));
            }
        }
    }

    private static void buyerProperties() {
        Sentences.holds(12, "what: 0 its material, 1 its worst grade, 2 its price, 3 its tolerance, 4 its limit, 5"
            + " what it has paid so far", "Returns a property of a buyer.", "Returns the property.", "buyer: a buyer");
        RecyclingLine x = ticked(1, BALES + "buyer a 1 0 1 98 97;buyer b 0 2 9999 20 100;");
        x.sell(0, 1);
        x.sell(0, 1);
        int[][] due = {{1, 0, 1, 98, 97, 0}, {0, 2, 9999, 20, 100, 2 * 3999}};
        for (int buyer = 0; buyer < 2; buyer++) {
            for (int what = 0; what < 6; what++) {
                Checks.due("buyer(" + buyer + ", " + what + ")", x.buyer(buyer, what), due[buyer][what]);
            }
        }
        x.undo();
        Checks.due("paid when one was undone", x.buyer(1, 5), 3999);
    }

    private static void noSuchBuyer() {
        Sentences.holds(12, "Throws IndexOutOfBoundsException if there is no such buyer");
        String text = "materials 1;station 0 0 1 0;";
        for (int buyers = 0; buyers <= 4; buyers++) {
            RecyclingLine x = Checks.lineOf(text);
            int none = buyers;
            if (buyers > 0) {
                Checks.due("the last one", x.buyer(buyers - 1, 2), buyers);
            }
            Checks.dueThrow("one more", INDEX, () -> x.buyer(none, 0));
            Checks.dueThrow("one more, and no such property", INDEX, () -> x.buyer(none, 6));
            Checks.dueThrow("-1", INDEX, () -> x.buyer(-1, 0));
            for (int buyer : FAR) {
                Checks.dueThrow("buyer " + buyer, INDEX, () -> x.buyer(buyer, -1));
            }
            text = text + "buyer " + (char) ('a' + buyers) + " 0 0 " + (buyers + 1) + " 0 0;";
        }
    }

    private static void noSuchBuyerProperty() {
        Sentences.holds(12, "Throws IllegalArgumentException if what is not 0 to 5");
        RecyclingLine x = Checks.lineOf("materials 1;station 0 0 1 0;buyer a 0 1 2 3 4;");
        Checks.dueThrow("-1", ARGUMENT, () -> x.buyer(0, -1));
        Checks.due("0", x.buyer(0, 0), 0);
        Checks.due("5", x.buyer(0, 5), 0);
        Checks.dueThrow("6", ARGUMENT, () -> x.buyer(0, 6));
        for (int what : FAR) {
            Checks.dueThrow("what " + what, ARGUMENT, () -> x.buyer(0, what));
        }
    }

    private static void balancesAre(RecyclingLine x, long... due) {
        for (int what = 0; what < due.length; what++) {
            Checks.due("balance(" + what + ")", x.balance(what), due[what]);
        }
    }

    private static void balances() {
        Sentences.holds(13, "what: 0 all that was loaded, 1 in the hopper, 2 on the belt, 3 in bunkers, 4 in bales in"
            + " stock, 5 in bales sold, 6 the residue, 7 what clean() has taken away", "Returns totals of mass.");
        balancesAre(new RecyclingLine(), 0, 0, 0, 0, 0, 0, 0, 0);
        RecyclingLine x = Checks.lineOf(BALES + "buyer a 0 2 1 99 99;buyer b 0 2 1 99 0;");
        balancesAre(x, 100, 100, 0, 0, 0, 0, 0, 0);
        x.load(1, 1);
        balancesAre(x, 101, 101, 0, 0, 0, 0, 0, 0);
        x.run(1);
        balancesAre(x, 101, 1, 22, 18, 60, 0, 0, 0);
        x.sell(0, 0);
        balancesAre(x, 101, 1, 22, 18, 40, 20, 0, 0);
        x.clean(0);
        balancesAre(x, 101, 1, 22, 0, 40, 20, 0, 18);
        x.run(1);
        balancesAre(x, 101, 0, 1, 0, 40, 20, 22, 18);
        x.sell(0, 1);
        balancesAre(x, 101, 20, 1, 0, 20, 20, 22, 18);
        x.run(1);
        // 16 and 16 * 30 / 100.
        balancesAre(x, 101, 0, 0, 0, 40, 20, 23, 18);
        x.undo();
        balancesAre(x, 101, 20, 1, 0, 20, 20, 22, 18);
        x.sell(0, 0);
        balancesAre(x, 101, 20, 1, 0, 0, 40, 22, 18);
        // As many stations as there can be, with something in front of each and in each bunker.
        RecyclingLine eight = ticked(8, "materials 2;" + "station 0 1 1 0;".repeat(8) + "set 0 100;set 6 0;" + "load 8 92;".repeat(9));
        balancesAre(eight, 900, 100, 800 - 36, 36, 0, 0, 0, 0);
        RecyclingLine most = Checks.lineOf("materials 6;station 0 0 1 0;" + "load 999 999 999 999 999 999;".repeat(22));
        balancesAre(most, 22 * 5994, 22 * 5994, 0, 0, 0, 0, 0, 0);
    }

    private static void balanceOfOthers() {
        Sentences.holds(13, "Returns the total; NONE for any other what.");
        RecyclingLine x = ticked(1, BALES);
        Checks.due("balance(-1)", x.balance(-1), -1L);
        Checks.due("balance(0)", x.balance(0), 100L);
        Checks.due("balance(7)", x.balance(7), 0L);
        Checks.due("balance(8)", x.balance(8), -1L);
        for (int what : FAR) {
            Checks.due("balance(" + what + ")", x.balance(what), -1L);
        }
    }

    private static void purityOfNone() {
        Sentences.holds(14, "0.0 if there are none");
        RecyclingLine x = Checks.lineOf(BALES);
        Checks.due("ahead of all bales", x.purity(0), 0.0);
        x.run(1);
        Checks.due("of what is in bales of another material only", x.purity(1), 0.0);
        x.undo();
        Checks.due("of bales that were undone", x.purity(0), 0.0);
        x.run(1);
        Checks.type(x, BALES);
        x.read();
        Checks.due("of bales of an earlier text", x.purity(0), 0.0);
    }

    private static void puritiesOfAllBales() {
        Sentences.holds(14, "Returns the mass of this material in all bales pressed so far whose material it is,"
            + " divided by the total of these bales, as doubles", "material: a material");
        RecyclingLine x = ticked(1, BALES + "station 1 9 50 0;buyer a 0 2 1 99 99;buyer b 0 2 1 99 0;");
        Checks.due("of three bales", x.purity(0), 47.0 / 60.0);
        x.run(1);
        Checks.due("of one bale of the other", x.purity(1), 1.0);
        Checks.due("which does not count for the first", x.purity(0), 47.0 / 60.0);
        x.sell(0, 0);
        x.sell(0, 1);
        Checks.due("also those sold and sent back", x.purity(0), 47.0 / 60.0);
        x.clean(0);
        x.run(1);
        // 16 and 4 come again; 16 * 30 / 100 are 4.
        Checks.due("what is pressed again counts again", x.purity(0), 63.0 / 80.0);
        // Two stations with the same target.
        RecyclingLine two = ticked(2, "materials 2;station 0 1 20 30;station 0 1 20 0;set 1 20;load 40 10;");
        Checks.due("bales of both stations", two.line(7), 2);
        Checks.due("40 less what is left, of 40", two.purity(0), 36.0 / 40.0);
    }

    private static void purityOfNoSuchMaterial() {
        Sentences.holds(14, "Throws IndexOutOfBoundsException if there is no such material");
        for (int materials = 1; materials <= 6; materials++) {
            RecyclingLine x = Checks.lineOf("materials " + materials + ";station 0 0 1 0;");
            int none = materials;
            Checks.due("the last one", x.purity(materials - 1), 0.0);
            Checks.dueThrow("one more", INDEX, () -> x.purity(none));
            Checks.dueThrow("-1", INDEX, () -> x.purity(-1));
            for (int material : FAR) {
                Checks.dueThrow("material " + material, INDEX, () -> x.purity(material));
            }
        }
    }

    private static void losses() {
        Sentences.holds(15, "Returns the residue divided by the residue and all bales pressed so far together, as"
            + " floats; 0.0f if both are 0.");
        Checks.due("both are 0", new RecyclingLine().loss(), 0.0f);
        RecyclingLine none = ticked(1, "materials 1;station 0 1 20 0;load 99;");
        Checks.due("both are 0, whatever is in hopper, belt and bunker", none.loss(), 0.0f);
        Checks.due("bales alone", ticked(1, BALES).loss(), 0.0f);
        Checks.due("residue alone", ticked(2, "materials 2;station 0 0 1 0;load 0 1;").loss(), 1.0f);
        RecyclingLine x = ticked(2, BALES + "buyer a 0 2 1 99 99;buyer b 0 2 1 99 0;");
        Checks.due("22 and 60", x.loss(), 22.0f / 82.0f);
        x.sell(0, 0);
        x.sell(0, 1);
        x.clean(0);
        Checks.due("also what is sold and sent back", x.loss(), 22.0f / 82.0f);
    }
}
