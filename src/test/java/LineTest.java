/** Promises 1, 7 to 15 and 19: a new object, the steps of a tick, and what can be asked about a line. */
public final class LineTest {
    private static final Class<IndexOutOfBoundsException> INDEX = IndexOutOfBoundsException.class;
    private static final Class<IllegalArgumentException> ARGUMENT = IllegalArgumentException.class;
    private static final Class<IllegalStateException> STATE = IllegalStateException.class;
    private static final int[] WRONG = {-1, Integer.MIN_VALUE, Integer.MAX_VALUE, 1000};

    public static void main(String[] args) {
        newObject();
        greatestLine();
        portions();
        picking();
        tiredness();
        belt();
        goingRound();
        loopBounds();
        fullHopperEndsRounds();
        pressing();
        grades();
        fullStock();
        stationsPressInTheirOrder();
        sums();
        wrongInputs();
        runBounds();
        Checks.finish();
    }

    private static void newObject() {
        RecyclingLine x = new RecyclingLine();
        Checks.due("buffer of a new object", x.bufferLength(), 0);
        Checks.due("a new object", Checks.everything(x), Checks.everything(Checks.lineOf("materials 1;station 0 0 1 0;")));
        int[] lines = {1, 1, 0, 0, 0, 0, 0, 0, 0, 0, 0};
        for (int what = 0; what < lines.length; what++) {
            Checks.due("line(" + what + ") of a new object", x.line(what), lines[what]);
        }
        int[] settings = {50, 100, 95, 85, 20, 2, 1, 2};
        for (int what = 0; what < settings.length; what++) {
            Checks.due("setting(" + what + ") of a new object", x.setting(what), settings[what]);
        }
        int[] station = {0, 0, 1, 0, 0, 0, 0, 0, -1, 0, 0};
        for (int what = 0; what < station.length; what++) {
            Checks.due("station(0, " + what + ") of a new object", x.station(0, what), station[what]);
        }
        Checks.due("NONE", RecyclingLine.NONE, -1);
        Checks.due("undo of a new object", x.undo(), -1);
    }

    /** As many as there can be of everything, so that whatever reads one too many would show. */
    private static void greatestLine() {
        String text = "materials 6;" + "station 5 1 5 30;".repeat(8) + "set 1 20;set 4 0;"
            + "buyer a 5 2 9 0 0;buyer b 5 2 9 0 0;buyer c 5 2 9 0 0;buyer d 5 2 9 99 100;" + "load 9 8 7 6 5 44;".repeat(21)
            + "load 1;".repeat(6);
        RecyclingLine x = Checks.lineOf(text);
        x.load(5, 999);
        x.load(5, 999);
        x.load(5, 999);
        Checks.due("parcels", x.line(4), 30);
        x.run(60);
        Checks.due("belt", x.line(5), 8);
        Checks.due("bales", x.line(6), 40);
        Checks.due("all pressed", x.line(7), 40);
        Checks.due("the best of four", x.bestBuyer(0), 3);
        Checks.due("none is named so", x.find(), -1);
        Checks.due("the last material", x.purity(5) > 0.5, true);
        Checks.due("tiredness", x.outlook(1, 4) > 0, true);
        x.run(1);
        x.undo();
        Checks.due("parcels on the belt", x.line(5), 8);
        Checks.due("the last bale", x.bale(39, 0), 39);
        Checks.due("ticks", x.line(3), 60);
        long sum = 0;
        for (int what = 1; what <= 7; what++) {
            sum += x.balance(what);
        }
        Checks.due("the sum of all places", sum, x.balance(0));
    }

    private static void portions() {
        RecyclingLine x = Checks.lineOf("materials 3;station 0 0 1 0;set 0 4;set 5 0;load 7 5 3;load 2;");
        // Each time what divides gives less than 4, and of the material of which most is left the rest is taken.
        x.run(1);
        Checks.masses(x, 8, 3, 1, 0);
        Checks.masses(x, 16, 4, 4, 3);
        x.run(1);
        Checks.masses(x, 8, 2, 1, 1);
        Checks.masses(x, 16, 2, 3, 2);
        Checks.masses(x, 46, 3, 1, 0);
        x.run(1);
        Checks.masses(x, 8, 1, 2, 1);
        Checks.masses(x, 16, 1, 1, 1);
        Checks.due("parcels in the hopper", x.line(4), 2);
        x.run(1);
        Checks.masses(x, 8, 1, 1, 1);
        Checks.masses(x, 16, 2, 0, 0);
        Checks.masses(x, 17, 0, 0, 0);
        Checks.due("parcels left", x.line(4), 1);
        x.run(1);
        Checks.masses(x, 8, 2, 0, 0);
        Checks.masses(x, 46, 7, 5, 3);
        Checks.due("an empty hopper", x.line(4), 0);
        x.run(1);
        Checks.masses(x, 46, 9, 5, 3);
        Checks.due("an empty belt", x.line(5), 0);

        RecyclingLine even = Checks.lineOf("materials 2;station 0 0 1 0;set 0 5;load 6 9;");
        even.run(1);
        Checks.masses(even, 8, 2, 3);

        // A portion as great as the heap is the whole heap.
        RecyclingLine whole = Checks.lineOf("materials 2;station 0 0 1 0;set 0 8;load 5 3;load 4 5;");
        whole.run(1);
        Checks.masses(whole, 8, 5, 3);
        Checks.masses(whole, 16, 4, 5);
        whole.run(1);
        // 3 and 4, and of the two materials of which 1 is left the lower one.
        Checks.masses(whole, 8, 4, 4);
        Checks.masses(whole, 16, 0, 1);
    }

    private static void picking() {
        RecyclingLine x = Checks.lineOf("materials 3;station 1 2 10 25;set 0 200;load 30 40 30;");
        x.run(1);
        // 20 of material 1 and 20 * 25 / 100 of material 0, the lower one of the two of which most is there.
        Checks.masses(x, 0, 5, 20, 0);
        Checks.masses(x, 8, 25, 20, 30);
        Checks.properties(x, 0, 1, 2, 10, 25, 1, 19, 25, 75, 0, 0, 25);
        x.run(1);
        // It went round; now 19 and 19 * 25 / 100 of material 2.
        Checks.masses(x, 0, 5, 39, 4);
        Checks.masses(x, 8, 25, 1, 26);
        Checks.properties(x, 0, 1, 2, 10, 25, 2, 19, 48, 52, 1, 0, 48);
        Checks.due("loss without residue", x.loss(), 0.0f);
        Checks.due("parcels gone round are on the belt", x.line(5), 1);
        x.run(1);
        // 1 * 100 / 52 is less than 20: residue.
        Checks.masses(x, 46, 25, 1, 26);
        Checks.properties(x, 0, 1, 2, 10, 25, 0, 20, 48, 0, -1, 0, 48);
        Checks.due("loss without bales", x.loss(), 1.0f);
        RecyclingLine least = Checks.lineOf("materials 2;station 0 0 1 0;load 0 1;");
        least.run(2);
        Checks.due("loss of one kilogram", least.loss(), 1.0f);
        Checks.due("ticks", x.line(3), 3);

        // Less of the target and of the other than could be picked.
        RecyclingLine y = Checks.lineOf("materials 2;station 0 9 50 30;set 0 200;set 1 500;load 100 20;load 3 50;");
        y.run(1);
        Checks.masses(y, 0, 100, 20);
        Checks.due("a parcel picked empty is gone", y.line(5), 0);
        Checks.due("its rounds", y.station(0, 8), -1);
        y.run(1);
        // 3 * 30 / 100 is nothing.
        Checks.masses(y, 8, 0, 50);
        Checks.due("picked", y.station(0, 10), 123);

        RecyclingLine odd = Checks.lineOf("materials 2;station 0 9 50 3;load 33 9;");
        odd.run(1);
        Checks.masses(odd, 8, 0, 9);
        RecyclingLine one = Checks.lineOf("materials 2;station 0 9 50 4;load 25 9;");
        one.run(1);
        Checks.masses(one, 8, 0, 8);

        // Without any of the target nothing is picked, of others neither.
        RecyclingLine z = Checks.lineOf("materials 2;station 0 9 50 30;load 0 40;");
        z.run(1);
        Checks.masses(z, 8, 0, 40);
        Checks.due("picked without a target", z.station(0, 10), 0);
    }

    private static void tiredness() {
        RecyclingLine x = Checks.lineOf("materials 1;station 0 1 1 0;set 6 5;set 0 1;set 4 100;set 5 0;load 40;");
        for (int tick = 1; tick <= 14; tick++) {
            x.run(1);
            // With a rate of 1 any tiredness leaves no capacity, so that it comes and goes.
            int[] due = {5, 3, 1, 0, 5, 3, 1, 0, 5, 3, 1, 0, 5, 3};
            Checks.due("tiredness after " + tick, x.station(0, 4), due[tick - 1]);
        }
        RecyclingLine z = Checks.lineOf("materials 1;station 0 7 13 0;set 6 5;set 0 30;load 999;load 999;");
        z.run(12);
        Checks.due("greatest tiredness", z.station(0, 4), 60);
        Checks.due("capacity then", z.station(0, 5), 36);
        z.run(1);
        Checks.due("it stays", z.station(0, 4), 60);
        z.set(6, 0);
        z.run(1);
        Checks.due("without tiring", z.station(0, 4), 60);
        Checks.due("staff", z.staff(0, 3), 7);
        Checks.due("those who came are not tired", z.station(0, 4), 0);
        Checks.due("capacity of those who came", z.station(0, 5), 39);
        RecyclingLine odd = Checks.lineOf("materials 1;station 0 1 50 0;set 6 3;load 50;");
        odd.run(1);
        Checks.due("tiring 3", odd.station(0, 4), 3);
        Checks.due("capacity rounds down", odd.station(0, 5), 48);
        odd.run(1);
        Checks.due("shrinks by 2", odd.station(0, 4), 1);
        odd.run(1);
        Checks.due("to at least 0", odd.station(0, 4), 0);
        RecyclingLine top = Checks.lineOf("materials 1;station 0 9 50 0;set 6 4;set 0 1;load 99;");
        top.set(6, 4);
        top.run(15);
        Checks.due("4 * 15", top.station(0, 4), 60);
        top.set(6, 5);
        top.run(1);
        Checks.due("at most 60", top.station(0, 4), 60);
    }

    private static void belt() {
        RecyclingLine x = Checks.lineOf("materials 2;station 0 0 1 0;station 0 0 1 0;station 0 0 1 0;set 0 10;"
            + "set 4 100;set 5 0;load 0 10;load 0 5;load 0 4;");
        int[][] due = {{10, 0, 0, 0}, {5, 10, 0, 0}, {4, 5, 10, 0}, {0, 4, 5, 10}, {0, 0, 4, 15}, {0, 0, 0, 19}};
        for (int tick = 0; tick < due.length; tick++) {
            x.run(1);
            int on = 0;
            for (int slot = 0; slot < 3; slot++) {
                Checks.due("slot " + slot + " in tick " + tick, x.station(slot, 7), due[tick][slot]);
                Checks.due("its rounds", x.station(slot, 8), due[tick][slot] == 0 ? -1 : 0);
                on += due[tick][slot] == 0 ? 0 : 1;
            }
            Checks.due("residue in tick " + tick, x.mass(46, 1), due[tick][3]);
            Checks.due("on the belt in tick " + tick, x.line(5), on);
        }
        Checks.due("no parcels are left", x.line(4) + x.line(5), 0);
        Checks.due("places of stations that are not there", x.mass(3, 0) + x.mass(7, 1) + x.mass(15, 1), 0);
        Checks.due("place of a parcel that is not there", x.mass(45, 1), 0);
    }

    private static void goingRound() {
        // What goes round goes behind what waits, with its own rounds, and no more often than rounds says.
        RecyclingLine x = Checks.lineOf("materials 2;station 0 0 1 0;set 0 10;load 10;load 0 25;");
        x.run(2);
        Checks.due("hopper", x.line(4), 2);
        Checks.masses(x, 16, 0, 15);
        Checks.masses(x, 17, 10, 0);
        Checks.due("rounds of what came later", x.station(0, 8), 0);
        x.run(3);
        Checks.masses(x, 8, 10, 0);
        Checks.due("rounds of what went round", x.station(0, 8), 1);
        Checks.masses(x, 46, 0, 25);
        x.run(1);
        Checks.due("rounds of what went round twice", x.station(0, 8), 2);
        Checks.due("it came from the hopper at once", x.line(4), 0);
        x.run(1);
        Checks.masses(x, 46, 10, 25);
        Checks.due("two rounds are the end", x.line(5), 0);
        RecyclingLine never = Checks.lineOf("materials 1;station 0 0 1 0;set 5 0;load 10;");
        never.run(2);
        Checks.due("no rounds at all", never.mass(46, 0), 10);
    }

    private static void loopBounds() {
        String text = "materials 3;station 0 0 1 0;station 2 0 1 0;set 4 20;load 1 8 1;load 1 9 1;";
        RecyclingLine x = Checks.lineOf(text);
        Checks.due("20 of 100 go round, 18 do not", x.outlook(4, 3), 1);
        Checks.due("residue", x.outlook(4, 2), 11);
        RecyclingLine less = Checks.lineOf("materials 2;station 0 0 1 0;set 0 200;set 4 20;load 20 81;");
        Checks.due("20 of 101 do not go round", less.outlook(2, 3), 0);
        x.set(4, 18);
        Checks.due("now both", x.outlook(4, 3), 2);
        // With loop 0 there must be one kilogram of a target still.
        RecyclingLine y = Checks.lineOf("materials 2;station 1 0 1 0;set 0 200;set 4 0;load 200 0;load 199 1;");
        y.run(3);
        Checks.masses(y, 46, 200, 0);
        Checks.masses(y, 8, 199, 1);
        Checks.due("one kilogram of 200 goes round", y.station(0, 8), 1);
    }

    private static void fullHopperEndsRounds() {
        RecyclingLine x = Checks.lineOf("materials 1;station 0 0 1 0;set 0 1;" + "load 9;".repeat(30));
        x.run(1);
        Checks.due("hopper", x.line(4), 30);
        x.run(1);
        Checks.due("30 parcels leave no place", x.mass(46, 0), 1);
        RecyclingLine y = Checks.lineOf("materials 1;station 0 0 1 0;set 0 1;load 1;" + "load 9;".repeat(29));
        y.run(1);
        Checks.due("hopper", y.line(4), 29);
        y.run(1);
        Checks.due("29 parcels leave one", y.mass(46, 0), 0);
        Checks.due("hopper then", y.line(4), 30);
        Checks.due("the last place", y.mass(45, 0), 1);
        y.run(10);
        Checks.due("eight of the first parcel and the next go away", y.mass(46, 0), 9);
    }

    private static void pressing() {
        RecyclingLine x = Checks.lineOf("materials 2;station 0 9 50 30;set 1 20;set 0 200;set 2 80;set 3 76;load 60 40;");
        Checks.due("outlook of bales", x.outlook(1, 0), 3);
        Checks.due("outlook of grade 0", x.outlook(1, 1), 2);
        Checks.due("run", x.run(1), 3);
        int[][] bales = {{0, 0, 20, 80, 0, 16, 4}, {1, 0, 20, 80, 0, 16, 4}, {2, 0, 20, 75, 2, 15, 5}};
        for (int bale = 0; bale < bales.length; bale++) {
            for (int what = 0; what < 7; what++) {
                Checks.due("bale(" + bale + ", " + what + ")", x.bale(bale, what), bales[bale][what]);
            }
        }
        Checks.masses(x, 0, 13, 5);
        Checks.masses(x, 8, 0, 22);
        Checks.due("pressed", x.station(0, 9), 3);
        Checks.due("purity", x.purity(0), 47.0 / 60.0);
        Checks.due("purity of what has no bale", x.purity(1), 0.0);
        Checks.due("loss before there is residue", x.loss(), 0.0f);
        Checks.due("run", x.run(1), 0);
        Checks.due("loss", x.loss(), 22.0f / 82.0f);
        Checks.due("bales pressed", x.line(7), 3);
        // A bunker of just the mass of a bale is pressed, one kilogram less is not.
        RecyclingLine y = Checks.lineOf("materials 1;station 0 9 50 0;set 0 19;set 1 20;load 20;");
        Checks.due("19 are no bale", y.run(1), 0);
        Checks.due("20 are", y.run(1), 1);
        Checks.due("nothing is left", y.station(0, 6), 0);
    }

    private static void grades() {
        // Bales of 20 and 4: a purity of 83.
        int[][] limits = {{83, 83, 0}, {84, 83, 1}, {84, 84, 2}, {83, 100, 0}, {0, 0, 0}, {100, 0, 1}};
        for (int[] limit : limits) {
            RecyclingLine y = Checks.lineOf("materials 2;station 0 9 50 20;set 0 24;set 1 24;load 20 4;");
            y.set(2, limit[0]);
            y.set(3, limit[1]);
            y.run(1);
            Checks.due("purity", y.bale(0, 3), 83);
            Checks.due("grade with " + limit[0] + " and " + limit[1], y.bale(0, 4), limit[2]);
            y.set(2, 0);
            Checks.due("a grade stays", y.bale(0, 4), limit[2]);
        }
    }

    private static void fullStock() {
        RecyclingLine x = Checks.lineOf("materials 2;station 0 9 50 0;station 1 9 50 0;set 0 200;set 1 20;set 6 0;"
            + "load 999;load 0 999;");
        Checks.due("bales", x.run(3), 30);
        Checks.due("bales up to 40", x.run(3), 10);
        Checks.due("stock", x.line(6), 40);
        Checks.due("the last serial number", x.bale(39, 0), 39);
        int waiting = x.station(0, 6);
        Checks.due("what waits in the bunker", waiting, 199);
        Checks.due("nothing more", x.run(3), 0);
        Checks.due("stock", x.line(6), 40);
    }

    private static void stationsPressInTheirOrder() {
        RecyclingLine x = Checks.lineOf("materials 2;station 1 9 50 0;station 0 9 50 0;set 0 40;set 1 20;load 20 20;"
            + "load 40 0;load 0 60;");
        Checks.due("first tick", x.run(1), 1);
        Checks.due("second tick", x.run(1), 1);
        Checks.due("third tick", x.run(1), 4);
        int[] material = {1, 0, 1, 1, 0, 0};
        for (int bale = 0; bale < 6; bale++) {
            Checks.due("serial number", x.bale(bale, 0), bale);
            Checks.due("material of bale " + bale, x.bale(bale, 1), material[bale]);
        }
        Checks.due("pressed by station 0", x.station(0, 9), 3);
        Checks.due("pressed by station 1", x.station(1, 9), 3);
    }

    private static void sums() {
        RecyclingLine x = Checks.lineOf("materials 2;station 0 2 20 20;station 1 1 9 0;set 0 60;set 1 30;set 2 0;"
            + "buyer a 0 2 100 100 100;buyer b 0 2 100 0 0;load 90 40;load 20 35;");
        x.load(1, 15);
        for (int tick = 0; tick < 12; tick++) {
            x.run(1);
            if (tick == 4) {
                x.sell(0, 0);
                x.clean(0);
            }
            long sum = 0;
            for (int what = 1; what <= 7; what++) {
                sum += x.balance(what);
            }
            Checks.due("the sum of all places", sum, x.balance(0));
        }
        Checks.due("loaded", x.balance(0), 200L);
        Checks.due("sold", x.balance(5), 30L);
        Checks.due("balance(8)", x.balance(8), -1L);
        Checks.due("balance(-1)", x.balance(-1), -1L);
    }

    private static void wrongInputs() {
        RecyclingLine x = Checks.lineOf("materials 2;station 0 9 50 0;station 0 1 1 0;set 1 20;buyer a 0 0 1 0 0;load 30;");
        x.run(1);
        for (int wrong : WRONG) {
            Checks.due("line", x.line(wrong), -1);
            Checks.due("balance", x.balance(wrong), -1L);
            Checks.dueThrow("setting", INDEX, () -> x.setting(wrong));
            Checks.dueThrow("station", INDEX, () -> x.station(wrong, 0));
            Checks.dueThrow("station", INDEX, () -> x.station(wrong, wrong));
            Checks.dueThrow("station", ARGUMENT, () -> x.station(0, wrong));
            Checks.dueThrow("mass", ARGUMENT, () -> x.mass(wrong, 0));
            Checks.dueThrow("mass", ARGUMENT, () -> x.mass(wrong, wrong));
            Checks.dueThrow("mass", INDEX, () -> x.mass(0, wrong));
            Checks.dueThrow("bale", INDEX, () -> x.bale(wrong, 0));
            Checks.dueThrow("bale", INDEX, () -> x.bale(wrong, wrong));
            Checks.dueThrow("bale", ARGUMENT, () -> x.bale(0, wrong));
            Checks.dueThrow("buyer", INDEX, () -> x.buyer(wrong, 0));
            Checks.dueThrow("buyer", INDEX, () -> x.buyer(wrong, wrong));
            Checks.dueThrow("buyer", ARGUMENT, () -> x.buyer(0, wrong));
            Checks.dueThrow("purity", INDEX, () -> x.purity(wrong));
        }
        Checks.due("line(11)", x.line(11), -1);
        Checks.dueThrow("setting(8)", INDEX, () -> x.setting(8));
        Checks.dueThrow("station(2, 0)", INDEX, () -> x.station(2, 0));
        Checks.dueThrow("station(1, 11)", ARGUMENT, () -> x.station(1, 11));
        Checks.dueThrow("mass(47, 2)", ARGUMENT, () -> x.mass(47, 2));
        Checks.dueThrow("mass(46, 2)", INDEX, () -> x.mass(46, 2));
        Checks.dueThrow("bale(1, 0)", INDEX, () -> x.bale(1, 0));
        Checks.dueThrow("bale(0, 7)", ARGUMENT, () -> x.bale(0, 7));
        Checks.dueThrow("buyer(1, 0)", INDEX, () -> x.buyer(1, 0));
        Checks.dueThrow("buyer(0, 6)", ARGUMENT, () -> x.buyer(0, 6));
        Checks.dueThrow("purity(2)", INDEX, () -> x.purity(2));
    }

    private static void runBounds() {
        RecyclingLine x = new RecyclingLine();
        Checks.dueThrow("run(0)", ARGUMENT, () -> x.run(0));
        Checks.dueThrow("run(-1)", ARGUMENT, () -> x.run(-1));
        Checks.dueThrow("run(201)", ARGUMENT, () -> x.run(201));
        Checks.due("nothing was changed", x.undo(), -1);
        for (int i = 0; i < 49; i++) {
            x.run(200);
        }
        Checks.due("ticks", x.line(3), 9800);
        Checks.dueThrow("run(200)", STATE, () -> x.run(200));
        Checks.dueThrow("run(201)", ARGUMENT, () -> x.run(201));
        Checks.due("run(199)", x.run(199), 0);
        Checks.due("ticks", x.line(3), 9999);
        Checks.dueThrow("run(1)", STATE, () -> x.run(1));
        Checks.due("ticks do not matter to outlook", x.outlook(200, 0), 0);
        Checks.due("nor to bestStaff", x.bestStaff(0, 100), 0);
        Checks.due("nor to emptied", x.emptied(), 0);
        Checks.due("undo", x.undo(), 5);
        Checks.due("ticks", x.line(3), 9800);
    }
}
