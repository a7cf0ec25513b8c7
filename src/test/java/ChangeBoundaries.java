import java.util.ArrayList;
import java.util.List;

/** The boundaries of promises 16 to 22: the changes, what can be undone, and what a refused call leaves as it was. */
final class ChangeBoundaries {
    private static final Class<IndexOutOfBoundsException> INDEX = IndexOutOfBoundsException.class;
    private static final Class<IllegalArgumentException> ARGUMENT = IllegalArgumentException.class;
    private static final Class<IllegalStateException> STATE = IllegalStateException.class;
    private static final int[] FAR = {Integer.MIN_VALUE, -1000, 10000, Integer.MAX_VALUE};
    private static final int[][] RANGES = {{1, 200}, {20, 500}, {0, 100}, {0, 100}, {0, 100}, {0, 5}, {0, 5}, {0, 20}};

    /** It presses three bales of 20 in its first tick: of 16 and 4, 16 and 4, 15 and 5. */
    private static final String BALES = "materials 2;station 0 9 50 30;set 1 20;set 0 200;load 60 40;";

    private ChangeBoundaries() {
    }

    static void all() {
        Checks.each(ChangeBoundaries::loadsLast, ChangeBoundaries::loadAnswers, ChangeBoundaries::loadOfNoMaterial,
            ChangeBoundaries::loadOutOfRange, ChangeBoundaries::loadIntoAFullHopper,
            ChangeBoundaries::setOfEachSetting, ChangeBoundaries::setAnswers, ChangeBoundaries::setOfNoSetting,
            ChangeBoundaries::setOutOfRange, ChangeBoundaries::staffNotTired, ChangeBoundaries::staffAnswers,
            ChangeBoundaries::staffOfNoStation, ChangeBoundaries::staffOutOfRange, ChangeBoundaries::runMakesTicks,
            ChangeBoundaries::runAnswers, ChangeBoundaries::runOutOfRange, ChangeBoundaries::runUpTo9999,
            ChangeBoundaries::sellLeavesTheStock, ChangeBoundaries::sellSendsBack, ChangeBoundaries::sellAnswers,
            ChangeBoundaries::sellOfNoBaleOrBuyer, ChangeBoundaries::sellOfWhatIsNotTaken,
            ChangeBoundaries::sellBackIntoAFullHopper, ChangeBoundaries::cleanTakesAway,
            ChangeBoundaries::cleanAnswers, ChangeBoundaries::cleanOfNoStation, ChangeBoundaries::sixChanges,
            ChangeBoundaries::changesOfNothing, ChangeBoundaries::allAsItWas, ChangeBoundaries::bufferStays,
            ChangeBoundaries::readForgets, ChangeBoundaries::refusedCallsChangeNothing,
            ChangeBoundaries::refusedCallsAreNoChanges, ChangeBoundaries::bufferReadersEmptyIt,
            ChangeBoundaries::firstException, ChangeBoundaries::undoOfTheLatest, ChangeBoundaries::undoAnswers);
    }

    private static RecyclingLine ticked(int ticks, String text) {
        RecyclingLine x = Checks.lineOf(text);
        x.run(ticks);
        return x;
    }

    private static RecyclingLine fullHopper() {
        return Checks.lineOf("materials 2;station 0 0 1 0;" + "load 1;".repeat(30));
    }

    private static void loadsLast() {
        Sentences.holds(16, "Puts a parcel of one material into the hopper, as the last one.");
        RecyclingLine x = Checks.lineOf("materials 3;station 0 0 1 0;load 5 5 5;");
        x.load(2, 7);
        Checks.masses(x, 16, 5, 5, 5);
        Checks.masses(x, 17, 0, 0, 7);
        x.load(0, 8);
        Checks.masses(x, 17, 0, 0, 7);
        Checks.masses(x, 18, 8, 0, 0);
        RecyclingLine empty = new RecyclingLine();
        empty.load(0, 1);
        Checks.masses(empty, 16, 1);
    }

    private static void loadAnswers() {
        Sentences.holds(16, "Returns the parcels in the hopper.");
        RecyclingLine x = new RecyclingLine();
        for (int parcels = 1; parcels <= 30; parcels++) {
            Checks.due("load", x.load(0, 999), parcels);
        }
        x.run(20);
        Checks.due("the first one went away", x.line(4), 29);
        Checks.due("load", x.load(0, 1), 30);
    }

    private static void loadOfNoMaterial() {
        Sentences.holds(16, "Throws IndexOutOfBoundsException if there is no such material", "material: a material");
        for (int materials = 1; materials <= 6; materials++) {
            RecyclingLine x = Checks.lineOf("materials " + materials + ";station 0 0 1 0;");
            int none = materials;
            Checks.dueThrow("one more", INDEX, () -> x.load(none, 1));
            Checks.dueThrow("-1", INDEX, () -> x.load(-1, 1));
            for (int material : FAR) {
                Checks.dueThrow("material " + material, INDEX, () -> x.load(material, 1));
            }
            Checks.due("the last one", x.load(materials - 1, 1), 1);
            Checks.due("the first one", x.load(0, 1), 2);
        }
    }

    private static void loadOutOfRange() {
        Sentences.holds(16, "Throws IllegalArgumentException if mass is out of range", "mass: 1 to 999");
        RecyclingLine x = new RecyclingLine();
        Checks.dueThrow("0", ARGUMENT, () -> x.load(0, 0));
        Checks.dueThrow("1000", ARGUMENT, () -> x.load(0, 1000));
        Checks.dueThrow("-1", ARGUMENT, () -> x.load(0, -1));
        for (int mass : FAR) {
            Checks.dueThrow("mass " + mass, ARGUMENT, () -> x.load(0, mass));
        }
        Checks.due("the least", x.load(0, 1), 1);
        Checks.due("the greatest", x.load(0, 999), 2);
        Checks.due("their mass", x.mass(16, 0) * 1000 + x.mass(17, 0), 1999);
    }

    private static void loadIntoAFullHopper() {
        Sentences.holds(16, "Throws IllegalStateException if the hopper holds 30 parcels");
        RecyclingLine x = fullHopper();
        Checks.dueThrow("into 30", STATE, () -> x.load(1, 1));
        Checks.due("parcels", x.line(4), 30);
        x.run(1);
        Checks.due("into 29", x.load(1, 1), 30);
        Checks.dueThrow("into 30 again", STATE, () -> x.load(1, 1));
        x.undo();
        Checks.due("into 29 again", x.load(1, 2), 30);
        Checks.masses(x, 45, 0, 2);
    }

    private static void setOfEachSetting() {
        Sentences.holds(17, "Changes a setting.", "what: a setting", "value: its value");
        int[] due = {50, 100, 95, 85, 20, 2, 1, 2};
        RecyclingLine x = new RecyclingLine();
        for (int what = 0; what < 8; what++) {
            due[what] = RANGES[what][1];
            x.set(what, due[what]);
            for (int other = 0; other < 8; other++) {
                Checks.due("setting " + other + " behind " + what, x.setting(other), due[other]);
            }
        }
    }

    private static void setAnswers() {
        Sentences.holds(17, "Returns the former value.");
        RecyclingLine x = Checks.lineOf("materials 1;station 0 0 1 0;set 4 33;");
        Checks.due("that of the text", x.set(4, 44), 33);
        Checks.due("that of set()", x.set(4, 44), 44);
        Checks.due("also if it is the same", x.set(4, 0), 44);
        Checks.due("0", x.set(4, 100), 0);
        Checks.due("100", x.set(4, 1), 100);
        x.undo();
        Checks.due("what was undone is not", x.set(4, 2), 100);
    }

    private static void setOfNoSetting() {
        Sentences.holds(17, "Throws IndexOutOfBoundsException if there is no such setting");
        RecyclingLine x = new RecyclingLine();
        Checks.dueThrow("-1", INDEX, () -> x.set(-1, 20));
        Checks.dueThrow("8", INDEX, () -> x.set(8, 20));
        for (int what : FAR) {
            Checks.dueThrow("setting " + what, INDEX, () -> x.set(what, 20));
        }
        Checks.due("0", x.set(0, 20), 50);
        Checks.due("7", x.set(7, 20), 2);
    }

    private static void setOutOfRange() {
        Sentences.holds(17, "Throws IllegalArgumentException if value is out of its range");
        for (int what = 0; what < 8; what++) {
            RecyclingLine x = new RecyclingLine();
            int asked = what;
            int first = x.setting(what);
            int least = RANGES[what][0];
            int greatest = RANGES[what][1];
            Checks.dueThrow("one less than the least of " + what, ARGUMENT, () -> x.set(asked, least - 1));
            Checks.dueThrow("one more than the greatest of " + what, ARGUMENT, () -> x.set(asked, greatest + 1));
            Checks.dueThrow("-1 for " + what, ARGUMENT, () -> x.set(asked, -1));
            for (int value : FAR) {
                Checks.dueThrow(value + " for " + what, ARGUMENT, () -> x.set(asked, value));
            }
            Checks.due("nothing was set", x.setting(what), first);
            Checks.due("the least of " + what, x.set(what, least), first);
            Checks.due("the greatest of " + what, x.set(what, greatest), least);
            Checks.due("setting", x.setting(what), greatest);
        }
    }

    private static void staffNotTired() {
        Sentences.holds(18, "Gives a station other pickers, who are not tired.");
        RecyclingLine x = ticked(14, "materials 1;station 0 9 50 0;station 0 3 10 0;set 0 20;set 6 5;load 999;");
        Checks.due("tired", x.station(0, 4), 60);
        x.staff(0, 9);
        Checks.due("as many as before", x.station(0, 4) * 1000 + x.station(0, 5), 450);
        x.undo();
        Checks.due("undone", x.station(0, 4), 60);
        x.staff(0, 0);
        Checks.due("none", x.station(0, 4) * 1000 + x.station(0, 5), 0);
        x.run(2);
        Checks.due("the other station tires", x.station(1, 4), 5);
        x.staff(0, 1);
        Checks.due("of another station nothing changes", x.station(1, 4) * 100 + x.station(1, 1), 503);
    }

    private static void staffAnswers() {
        Sentences.holds(18, "Returns the former number of pickers.");
        RecyclingLine x = Checks.lineOf("materials 1;station 0 9 1 0;station 0 0 1 0;");
        Checks.due("9", x.staff(0, 1), 9);
        Checks.due("1", x.staff(0, 1), 1);
        Checks.due("also if it is the same", x.staff(0, 0), 1);
        Checks.due("0", x.staff(0, 9), 0);
        Checks.due("that of the other", x.staff(1, 9), 0);
    }

    private static void staffOfNoStation() {
        Sentences.holds(18, "Throws IndexOutOfBoundsException if there is no such station", "station: a station");
        for (int stations = 1; stations <= 8; stations++) {
            RecyclingLine x = Checks.lineOf("materials 1;" + "station 0 3 1 0;".repeat(stations));
            int none = stations;
            Checks.dueThrow("one more", INDEX, () -> x.staff(none, 1));
            Checks.dueThrow("-1", INDEX, () -> x.staff(-1, 1));
            for (int station : FAR) {
                Checks.dueThrow("station " + station, INDEX, () -> x.staff(station, 1));
            }
            Checks.due("the last one", x.staff(stations - 1, 1), 3);
        }
    }

    private static void staffOutOfRange() {
        Sentences.holds(18, "Throws IllegalArgumentException if pickers is out of range", "pickers: 0 to 9");
        RecyclingLine x = Checks.lineOf("materials 1;station 0 4 1 0;");
        Checks.dueThrow("-1", ARGUMENT, () -> x.staff(0, -1));
        Checks.dueThrow("10", ARGUMENT, () -> x.staff(0, 10));
        for (int pickers : FAR) {
            Checks.dueThrow(pickers + " pickers", ARGUMENT, () -> x.staff(0, pickers));
        }
        Checks.due("the least", x.staff(0, 0), 4);
        Checks.due("the greatest", x.staff(0, 9), 0);
        Checks.due("pickers", x.station(0, 1), 9);
    }

    private static void runMakesTicks() {
        Sentences.holds(19, "Makes ticks.", "ticks: 1 to 200");
        String text = "materials 1;station 0 0 1 0;set 0 1;set 5 0;load 300;";
        for (int ticks : new int[] {1, 2, 199, 200}) {
            RecyclingLine x = ticked(ticks, text);
            Checks.due("ticks", x.line(3), ticks);
            Checks.due("what was fed", 300 - x.balance(1), (long) ticks);
        }
    }

    private static void runAnswers() {
        Sentences.holds(19, "Returns the number of bales pressed in them.");
        RecyclingLine x = Checks.lineOf("materials 1;station 0 9 50 0;set 0 200;set 1 20;set 6 0;buyer a 0 0 1 0 0;load 999;");
        Checks.due("in one tick", x.run(1), 10);
        Checks.due("in two more", x.run(2), 20);
        Checks.due("up to 40 in stock", x.run(5), 10);
        Checks.due("none", x.run(5), 0);
        x.sell(0, 0);
        x.sell(0, 0);
        Checks.due("what the stock has place for", x.run(1), 2);
        Checks.due("of nothing", new RecyclingLine().run(200), 0);
    }

    private static void runOutOfRange() {
        Sentences.holds(19, "Throws IllegalArgumentException if ticks is out of range");
        RecyclingLine x = new RecyclingLine();
        Checks.dueThrow("0", ARGUMENT, () -> x.run(0));
        Checks.dueThrow("-1", ARGUMENT, () -> x.run(-1));
        Checks.dueThrow("201", ARGUMENT, () -> x.run(201));
        for (int ticks : FAR) {
            Checks.dueThrow(ticks + " ticks", ARGUMENT, () -> x.run(ticks));
        }
        Checks.due("ticks made", x.line(3), 0);
        Checks.due("the least", x.run(1), 0);
        Checks.due("the greatest", x.run(200), 0);
        Checks.due("ticks made", x.line(3), 201);
    }

    private static void runUpTo9999() {
        Sentences.holds(19, "Throws IllegalStateException if there would be more than 9999 ticks in all");
        RecyclingLine x = new RecyclingLine();
        for (int i = 0; i < 49; i++) {
            x.run(200);
        }
        Checks.dueThrow("10000", STATE, () -> x.run(200));
        Checks.due("ticks made", x.line(3), 9800);
        Checks.due("9999", x.run(199), 0);
        Checks.dueThrow("10000 by one", STATE, () -> x.run(1));
        Checks.dueThrow("10199", STATE, () -> x.run(200));
        Checks.due("ticks made", x.line(3), 9999);
        x.undo();
        Checks.due("9998", x.run(198), 0);
        Checks.dueThrow("10000 by two", STATE, () -> x.run(2));
        Checks.due("9999 by one", x.run(1), 0);
        Checks.type(x, "materials 1;station 0 0 1 0;");
        x.read();
        Checks.due("a new text begins with none", x.run(200), 0);
    }

    private static void sellLeavesTheStock() {
        Sentences.holds(20, "It leaves the stock.", "Sells a bale.");
        for (int sold = 0; sold < 3; sold++) {
            RecyclingLine x = ticked(1, BALES + "buyer a 0 2 1 99 99;");
            x.sell(sold, 0);
            Checks.due("stock", x.line(6), 2);
            Checks.due("the first then", x.bale(0, 0), sold == 0 ? 1 : 0);
            Checks.due("the last then", x.bale(1, 0), sold == 2 ? 1 : 2);
            Checks.due("in stock", x.balance(4), 40L);
            Checks.due("sold", x.balance(5), 20L);
        }
        RecyclingLine x = ticked(1, BALES + "buyer a 0 2 1 99 99;");
        x.sell(0, 0);
        x.sell(0, 0);
        x.sell(0, 0);
        Checks.due("all are sold", x.line(6), 0);
        Checks.dueThrow("none is left", INDEX, () -> x.bale(0, 0));
    }

    private static void sellSendsBack() {
        Sentences.holds(20, "If it is sent back, its heap is put into the hopper as the last parcel, with 0 rounds.");
        RecyclingLine x = ticked(1, BALES + "buyer a 0 2 1 99 24;load 0 9;");
        Checks.due("sell", x.sell(2, 0), -1);
        Checks.due("stock", x.line(6), 2);
        Checks.due("hopper", x.line(4), 2);
        Checks.masses(x, 16, 0, 9);
        Checks.masses(x, 17, 15, 5);
        x.staff(0, 0);
        x.run(2);
        Checks.masses(x, 8, 15, 5);
        Checks.due("its rounds", x.station(0, 8), 0);
        RecyclingLine empty = ticked(1, BALES + "buyer a 0 2 1 99 24;");
        empty.sell(2, 0);
        Checks.masses(empty, 16, 15, 5);
        Checks.due("the only one of the hopper", empty.line(4), 1);
    }

    private static void sellAnswers() {
        Sentences.holds(20, "Returns what the buyer pays; NONE if the bale is sent back.");
        RecyclingLine x = ticked(1, BALES + "buyer a 0 2 1 99 99;buyer b 0 2 9999 99 24;");
        Checks.due("1 * 40 / 100", x.sell(0, 0), 0);
        Checks.due("9999 * 40 / 100", x.sell(0, 1), 3999);
        Checks.due("an impurity of 25 with a limit of 24", x.sell(0, 1), -1);
        Checks.due("what was paid", x.buyer(1, 5), 3999);
    }

    private static void sellOfNoBaleOrBuyer() {
        Sentences.holds(20, "Throws IndexOutOfBoundsException if there is no such bale or buyer",
            "bale: an index into the stock", "buyer: a buyer");
        RecyclingLine x = ticked(1, BALES + "buyer a 0 2 1 99 99;buyer b 0 2 1 99 99;");
        Checks.dueThrow("bale -1", INDEX, () -> x.sell(-1, 0));
        Checks.dueThrow("bale 3 of 3", INDEX, () -> x.sell(3, 0));
        Checks.dueThrow("buyer -1", INDEX, () -> x.sell(0, -1));
        Checks.dueThrow("buyer 2 of 2", INDEX, () -> x.sell(0, 2));
        Checks.dueThrow("neither", INDEX, () -> x.sell(3, 2));
        for (int none : FAR) {
            Checks.dueThrow("bale " + none, INDEX, () -> x.sell(none, 0));
            Checks.dueThrow("buyer " + none, INDEX, () -> x.sell(0, none));
        }
        Checks.due("the last ones", x.sell(2, 1), 0);
        Checks.dueThrow("bale 2 of 2", INDEX, () -> x.sell(2, 1));
        RecyclingLine empty = Checks.lineOf(BALES + "buyer a 0 2 1 99 99;");
        Checks.dueThrow("an empty stock", INDEX, () -> empty.sell(0, 0));
        RecyclingLine alone = ticked(1, BALES);
        Checks.dueThrow("no buyers at all", INDEX, () -> alone.sell(0, 0));
        RecyclingLine most = ticked(4, "materials 1;station 0 9 50 0;set 0 200;set 1 20;load 800;buyer a 0 0 7 0 0;");
        Checks.dueThrow("bale 40 of 40", INDEX, () -> most.sell(40, 0));
        Checks.due("bale 39 of 40", most.sell(39, 0), 7);
    }

    private static void sellOfWhatIsNotTaken() {
        Sentences.holds(20, "Throws IllegalArgumentException if the buyer does not take this bale");
        RecyclingLine x = ticked(1, BALES + "set 2 80;set 3 75;buyer a 1 2 1 99 99;buyer b 0 0 1 99 99;buyer c 0 1 1 99 99;");
        Checks.dueThrow("another material", ARGUMENT, () -> x.sell(0, 0));
        Checks.dueThrow("grade 1 for 0", ARGUMENT, () -> x.sell(2, 1));
        Checks.due("stock", x.line(6), 3);
        Checks.due("grade 1 for 1", x.sell(2, 2), 0);
        Checks.due("grade 0 for 0", x.sell(0, 1), 1);
        Checks.due("grade 0 for 1", x.sell(0, 2), 1);
    }

    private static void sellBackIntoAFullHopper() {
        Sentences.holds(20, "Throws IllegalStateException if it would be sent back and the hopper holds 30 parcels");
        RecyclingLine x = ticked(1, BALES + "buyer a 0 2 1 99 24;" + "load 1;".repeat(29));
        Checks.due("into 29", x.line(4), 29);
        Checks.due("the last place", x.sell(2, 0), -1);
        Checks.due("parcels", x.line(4), 30);
        Checks.masses(x, 45, 15, 5);
        x.undo();
        x.load(1, 1);
        Checks.dueThrow("into 30", STATE, () -> x.sell(2, 0));
        Checks.due("it stays in stock", x.line(6), 3);
        Checks.due("it stays first", x.bale(2, 5), 15);
        Checks.due("not sent back", x.line(9), 0);
        Checks.due("one that is not sent back", x.sell(1, 0), 0);
        Checks.due("parcels", x.line(4), 30);
    }

    private static void cleanTakesAway() {
        Sentences.holds(21, "Cleans a station: what is in its bunker is taken away.");
        RecyclingLine x = ticked(2, "materials 2;station 0 1 10 30;station 0 1 10 0;load 30 10;");
        Checks.masses(x, 0, 10, 3);
        x.clean(0);
        Checks.masses(x, 0, 0, 0);
        Checks.masses(x, 1, 10, 0);
        Checks.masses(x, 9, 10, 7);
        Checks.due("taken away", x.balance(7), 13L);
        Checks.due("its bunker", x.station(0, 6), 0);
        Checks.due("who picks is as tired as before", x.station(1, 4), 1);
    }

    private static void cleanAnswers() {
        Sentences.holds(21, "Returns the total that was in it.");
        RecyclingLine x = ticked(1, "materials 2;station 0 1 10 30;load 30 10;");
        Checks.due("13", x.clean(0), 13);
        Checks.due("nothing", x.clean(0), 0);
        Checks.due("taken away", x.balance(7), 13L);
        RecyclingLine y = ticked(1, "materials 1;station 0 9 50 0;set 0 139;set 1 20;load 139;");
        Checks.due("all but the bales", y.clean(0), 19);
        Checks.due("one less than the greatest bale",
            ticked(3, "materials 1;station 0 9 50 0;set 0 200;set 1 500;load 499;").clean(0), 499);
        RecyclingLine full = ticked(25, "materials 1;station 0 9 50 0;set 0 200;set 1 20;set 6 0;" + "load 999;".repeat(5));
        Checks.due("all but the bales of a full stock", full.clean(0), 5 * 999 - 800);
    }

    private static void cleanOfNoStation() {
        Sentences.holds(21, "Throws IndexOutOfBoundsException if there is no such station", "station: a station");
        for (int stations = 1; stations <= 8; stations++) {
            RecyclingLine x = Checks.lineOf("materials 1;" + "station 0 3 1 0;".repeat(stations));
            int none = stations;
            Checks.dueThrow("one more", INDEX, () -> x.clean(none));
            Checks.dueThrow("-1", INDEX, () -> x.clean(-1));
            for (int station : FAR) {
                Checks.dueThrow("station " + station, INDEX, () -> x.clean(station));
            }
            Checks.due("the last one", x.clean(stations - 1), 0);
        }
    }

    private static void sixChanges() {
        Sentences.holds(0, "the latest 6 can be undone");
        for (int changes = 0; changes <= 14; changes++) {
            RecyclingLine x = new RecyclingLine();
            for (int i = 1; i <= changes; i++) {
                x.set(0, i);
            }
            int kept = Math.min(changes, 6);
            for (int left = kept - 1; left >= 0; left--) {
                Checks.due("undo", x.undo(), left);
                int made = changes - kept + left;
                Checks.due("feed after " + made + " changes", x.setting(0), made == 0 ? 50 : made);
            }
            Checks.due("no more", x.undo(), -1);
            Checks.due("feed", x.setting(0), changes <= 6 ? 50 : changes - 6);
        }
    }

    private static void changesOfNothing() {
        Sentences.holds(0, "are changes if they throw nothing, also if nothing differs by them");
        RecyclingLine x = Checks.lineOf(BALES + "buyer a 0 2 1 99 99;");
        x.set(0, 200);
        Checks.due("set() to the same", x.undo(), 0);
        x.staff(0, 9);
        Checks.due("staff() of the same", x.undo(), 0);
        x.clean(0);
        Checks.due("clean() of an empty bunker", x.undo(), 0);
        x.run(1);
        Checks.due("run()", x.undo(), 0);
        x.load(0, 1);
        Checks.due("load()", x.undo(), 0);
        x.run(1);
        x.sell(0, 0);
        Checks.due("sell() for nothing", x.undo(), 1);
        Checks.due("and run()", x.undo(), 0);
        for (int i = 0; i < 3; i++) {
            x.set(0, 200);
            x.staff(0, 9);
            x.clean(0);
        }
        Checks.due("they push out others", x.undo(), 5);
    }

    private static void allAsItWas() {
        Sentences.holds(0, "all is then as it was ahead of the change");
        String text = "materials 2;station 1 9 50 30;set 1 20;set 0 200;load 40 60;station 0 2 9 0;"
            + "buyer a 1 2 1000 10 20;buyer b 1 2 1000 0 0;load 9 9;load 90;";
        List<Checks.Call> changes = new ArrayList<>();
        for (int i = 0; i < 8; i++) {
            RecyclingLine x = ticked(2, text);
            changes.clear();
            changes.add(() -> x.load(1, 999));
            changes.add(() -> x.set(6, 5));
            changes.add(() -> x.staff(1, 9));
            changes.add(() -> x.run(1));
            changes.add(() -> x.run(50));
            changes.add(() -> x.sell(0, 0));
            changes.add(() -> x.sell(0, 1));
            changes.add(() -> x.clean(1));
            String before = Checks.everything(x);
            changes.get(i).answer();
            Checks.due("change " + i + " changes something", Checks.everything(x).equals(before), false);
            Checks.due("undo", x.undo(), 1);
            Checks.due("everything ahead of change " + i, Checks.everything(x), before);
        }
    }

    private static void bufferStays() {
        Sentences.holds(0, "(the input buffer stays)");
        RecyclingLine x = Checks.lineOf(BALES + "buyer ab 0 2 1 0 0;");
        x.set(0, 9);
        Checks.type(x, "ab");
        x.undo();
        Checks.due("its length", x.bufferLength(), 2);
        Checks.due("its bytes", x.find(), 0);
        Checks.type(x, "ab");
        x.set(0, 9);
        x.append(0, 0, 0, 0, 0);
        x.undo();
        Checks.due("its length, not that ahead of the change", x.bufferLength(), 22);
        x.set(0, 9);
        x.truncate(0);
        x.undo();
        Checks.due("nor what was in it then", x.bufferLength(), 0);
    }

    private static void readForgets() {
        Sentences.holds(0, "read() forgets them if it succeeds.");
        for (int changes = 0; changes <= 7; changes++) {
            RecyclingLine x = new RecyclingLine();
            for (int i = 0; i < changes; i++) {
                x.load(0, 9);
            }
            Checks.type(x, "materials 1;station 0 0 1 0;");
            x.read();
            Checks.due("nothing can be undone", x.undo(), -1);
            Checks.due("nothing was", x.line(4), 0);
            x.set(0, 9);
            Checks.due("but what comes later", x.undo(), 0);
            Checks.due("nothing more", x.undo(), -1);
        }
        RecyclingLine x = new RecyclingLine();
        x.load(0, 9);
        x.read();
        Checks.due("a read() that does not succeed forgets nothing", x.undo(), 0);
        Checks.due("it is undone", x.line(4), 0);
    }

    /** Calls that throw, each for every reason that it can have on this line: three bales, a full hopper, two stations. */
    private static List<Checks.Call> refusedCalls(RecyclingLine x) {
        return List.of(() -> x.setting(8), () -> x.station(2, 0), () -> x.station(0, 11), () -> x.mass(47, 0), () -> x.mass(0, 2),
            () -> x.bale(3, 0), () -> x.bale(0, 7), () -> x.buyer(2, 0), () -> x.buyer(0, 6), () -> x.purity(2),
            () -> x.load(2, 1), () -> x.load(0, 1000), () -> x.load(0, 1), () -> x.set(8, 1), () -> x.set(0, 0),
            () -> x.staff(2, 1), () -> x.staff(0, 10), () -> x.run(0), () -> x.run(201), () -> x.sell(3, 0), () -> x.sell(0, 2),
            () -> x.sell(0, 1), () -> x.sell(2, 0), () -> x.clean(2), () -> x.bestBuyer(3), () -> x.outlook(0, 0),
            () -> x.outlook(1, 5), () -> x.bestStaff(2, 1), () -> x.bestStaff(0, 101));
    }

    private static RecyclingLine refusing() {
        RecyclingLine x = ticked(1, BALES + "station 1 0 1 0;buyer a 0 2 1 99 24;buyer b 1 2 1 99 99;" + "load 1;".repeat(29));
        x.load(1, 1);
        Checks.type(x, "ab");
        return x;
    }

    private static void refusedCallsChangeNothing() {
        Sentences.holds(0, "A method that throws an exception changes nothing");
        RecyclingLine x = refusing();
        String before = Checks.everything(x);
        for (Checks.Call call : refusedCalls(x)) {
            Checks.due("it throws", Checks.outcome(call) instanceof Class<?>, true);
        }
        Checks.due("everything", Checks.everything(x), before);
        Checks.due("the buffer", x.bufferLength(), 2);
        RecyclingLine last = new RecyclingLine();
        for (int i = 0; i < 49; i++) {
            last.run(200);
        }
        last.load(0, 100);
        before = Checks.everything(last);
        Checks.dueThrow("too many ticks in all", STATE, () -> last.run(200));
        Checks.due("everything", Checks.everything(last), before);
    }

    private static void refusedCallsAreNoChanges() {
        Sentences.holds(0, "A method that throws an exception changes nothing");
        RecyclingLine x = refusing();
        int calls = refusedCalls(x).size();
        for (int i = 0; i < calls; i++) {
            RecyclingLine y = refusing();
            Checks.outcome(refusedCalls(y).get(i));
            Checks.due("the load is the latest change after call " + i, y.undo(), 1);
            Checks.due("it is undone", y.line(4), 29);
            Checks.due("and the tick", y.undo(), 0);
            Checks.due("nothing more", y.undo(), -1);
        }
        // Nor do they push out what can be undone.
        RecyclingLine full = new RecyclingLine();
        for (int i = 1; i <= 6; i++) {
            full.load(0, i);
        }
        Checks.dueThrow("a refused change", ARGUMENT, () -> full.load(0, 0));
        for (int left = 5; left >= 0; left--) {
            Checks.due("undo", full.undo(), left);
            Checks.due("parcels", full.line(4), left);
        }
    }

    private static void bufferReadersEmptyIt() {
        Sentences.holds(0, "except that a method that reads the input buffer empties it");
        RecyclingLine x = new RecyclingLine();
        Checks.type(x, "?");
        x.read();
        Checks.due("read() of an error", x.bufferLength(), 0);
        Checks.type(x, "?");
        x.find();
        Checks.due("find() of none", x.bufferLength(), 0);
        Checks.type(x, "?");
        Checks.dueThrow("what does not read it", ARGUMENT, () -> x.run(0));
        Checks.due("leaves it", x.bufferLength(), 1);
    }

    private static void firstException() {
        Sentences.holds(0, "If several exceptions are possible, the one that is listed first is thrown.");
        RecyclingLine x = refusing();
        Checks.dueThrow("station: index, argument", INDEX, () -> x.station(2, 11));
        Checks.dueThrow("mass: argument, index", ARGUMENT, () -> x.mass(47, 2));
        Checks.dueThrow("bale: index, argument", INDEX, () -> x.bale(3, 7));
        Checks.dueThrow("buyer: index, argument", INDEX, () -> x.buyer(2, 6));
        Checks.dueThrow("load: index, argument, state", INDEX, () -> x.load(2, 0));
        Checks.dueThrow("load: index, state", INDEX, () -> x.load(2, 1));
        Checks.dueThrow("load: argument, state", ARGUMENT, () -> x.load(1, 0));
        Checks.dueThrow("load: state", STATE, () -> x.load(1, 1));
        Checks.dueThrow("set: index, argument", INDEX, () -> x.set(8, 1000));
        Checks.dueThrow("staff: index, argument", INDEX, () -> x.staff(2, 10));
        Checks.dueThrow("sell: index of the bale, argument", INDEX, () -> x.sell(3, 1));
        Checks.dueThrow("sell: index of the buyer, state", INDEX, () -> x.sell(2, 2));
        Checks.dueThrow("sell: state", STATE, () -> x.sell(2, 0));
        Checks.dueThrow("bestStaff: index, argument", INDEX, () -> x.bestStaff(2, 101));
        // A bale that the buyer does not take, would send back, and could not.
        RecyclingLine back = ticked(1, BALES + "buyer a 1 2 1 0 0;buyer b 0 1 1 0 0;" + "load 1;".repeat(29));
        Checks.due("a full hopper", back.load(0, 1), 30);
        Checks.dueThrow("sell: argument, state", ARGUMENT, () -> back.sell(2, 0));
        Checks.dueThrow("sell: argument, state", ARGUMENT, () -> back.sell(2, 1));
        RecyclingLine last = new RecyclingLine();
        for (int i = 0; i < 50; i++) {
            last.run(i < 49 ? 200 : 199);
        }
        Checks.dueThrow("run: argument, state", ARGUMENT, () -> last.run(201));
        Checks.dueThrow("run: argument, state", ARGUMENT, () -> last.run(Integer.MAX_VALUE));
        Checks.dueThrow("run: argument", ARGUMENT, () -> last.run(0));
        Checks.dueThrow("run: state", STATE, () -> last.run(1));
    }

    private static void undoOfTheLatest() {
        Sentences.holds(22, "Undoes the latest change that can be undone.");
        RecyclingLine x = new RecyclingLine();
        x.set(0, 1);
        x.set(1, 20);
        x.undo();
        Checks.due("the latest one", x.setting(1), 100);
        Checks.due("not the one ahead of it", x.setting(0), 1);
        x.set(2, 9);
        x.undo();
        Checks.due("one that was made behind an undo", x.setting(2), 95);
        Checks.due("not the one ahead of it", x.setting(0), 1);
        x.undo();
        Checks.due("then that one", x.setting(0), 50);
        x.set(0, 1);
        x.undo();
        x.undo();
        Checks.due("undo is no change that can be undone", x.setting(0), 50);
        // Filled, emptied in part, and filled again.
        for (int i = 1; i <= 7; i++) {
            x.set(0, i);
        }
        for (int i = 0; i < 4; i++) {
            x.undo();
        }
        Checks.due("four are undone", x.setting(0), 3);
        for (int i = 11; i <= 16; i++) {
            x.set(0, i);
        }
        for (int i = 15; i >= 11; i--) {
            x.undo();
            Checks.due("feed", x.setting(0), i);
        }
        Checks.due("the sixth", x.undo(), 0);
        Checks.due("feed", x.setting(0), 3);
        Checks.due("no seventh", x.undo(), -1);
        Checks.due("feed", x.setting(0), 3);
    }

    private static void undoAnswers() {
        Sentences.holds(22, "Returns the number of changes that can still be undone; NONE if there is none to undo.");
        RecyclingLine x = new RecyclingLine();
        Checks.due("of a new object", x.undo(), -1);
        Checks.due("again", x.undo(), -1);
        x.set(0, 1);
        Checks.due("of one change", x.undo(), 0);
        Checks.due("then", x.undo(), -1);
        for (int i = 0; i < 6; i++) {
            x.set(0, 1);
        }
        Checks.due("of six", x.undo(), 5);
        x.set(0, 1);
        Checks.due("of six again", x.undo(), 5);
        x.set(0, 1);
        x.set(0, 1);
        Checks.due("of seven", x.undo(), 5);
        for (int left = 4; left >= 0; left--) {
            Checks.due("one by one", x.undo(), left);
        }
        Checks.due("no more", x.undo(), -1);
        String before = Checks.everything(x);
        Checks.due("nor then", x.undo(), -1);
        Checks.due("nothing is changed by it", Checks.everything(x), before);
    }
}
