/** Promises 16 to 26: the changes, undoing them, and the questions that change nothing. */
public final class ChangesTest {
    private static final Class<IndexOutOfBoundsException> INDEX = IndexOutOfBoundsException.class;
    private static final Class<IllegalArgumentException> ARGUMENT = IllegalArgumentException.class;
    private static final Class<IllegalStateException> STATE = IllegalStateException.class;
    private static final int[] WRONG = {-1, Integer.MIN_VALUE, Integer.MAX_VALUE, 1000};

    /** A first tick of it presses bales of a purity of 80, 80 and 75, all of grade 2. */
    private static final String BALES = "materials 2;station 0 9 50 30;set 1 20;set 0 200;load 60 40;";

    public static void main(String[] args) {
        loading();
        setting();
        staffing();
        cleaning();
        selling();
        sellingFromAFullStock();
        payingByGrade();
        claiming();
        sendingBack();
        undoing();
        undoingAll();
        bestBuyers();
        outlooks();
        bestStaffs();
        emptyings();
        wrongInputs();
        Checks.finish();
    }

    private static void loading() {
        RecyclingLine x = Checks.lineOf("materials 3;station 0 0 1 0;load 5 5 5;");
        Checks.due("load", x.load(2, 999), 2);
        Checks.due("load", x.load(0, 1), 3);
        Checks.due("mass", x.mass(17, 2), 999);
        Checks.due("no other mass", x.mass(17, 0) + x.mass(17, 1), 0);
        Checks.due("mass", x.mass(18, 0), 1);
        Checks.due("loaded", x.balance(0), 1015L);
        Checks.due("in the hopper", x.balance(1), 1015L);
        for (int i = 4; i <= 30; i++) {
            Checks.due("load", x.load(1, i), i);
        }
        Checks.due("the last parcel", x.mass(45, 1), 30);
        Checks.dueThrow("load into a full hopper", STATE, () -> x.load(1, 1));
        Checks.dueThrow("the first of three", INDEX, () -> x.load(3, 0));
        Checks.dueThrow("the first of two", ARGUMENT, () -> x.load(2, 1000));
        x.run(1);
        Checks.due("a place is free", x.load(1, 7), 30);
        Checks.due("in it", x.mass(45, 1), 7);
        RecyclingLine y = new RecyclingLine();
        y.load(0, 5);
        y.run(1);
        Checks.due("what is loaded has no rounds", y.station(0, 8), 0);
    }

    private static void setting() {
        RecyclingLine x = Checks.lineOf("materials 1;station 0 0 1 0;set 0 33;");
        int[][] ranges = {{1, 200}, {20, 500}, {0, 100}, {0, 100}, {0, 100}, {0, 5}, {0, 5}, {0, 20}};
        int[] former = {33, 100, 95, 85, 20, 2, 1, 2};
        for (int what = 0; what < 8; what++) {
            int asked = what;
            Checks.dueThrow("too small", ARGUMENT, () -> x.set(asked, ranges[asked][0] - 1));
            Checks.dueThrow("too great", ARGUMENT, () -> x.set(asked, ranges[asked][1] + 1));
            Checks.due("set", x.set(what, ranges[what][0]), former[what]);
            Checks.due("set", x.set(what, ranges[what][1]), ranges[what][0]);
            Checks.due("setting", x.setting(what), ranges[what][1]);
        }
        RecyclingLine y = Checks.lineOf("materials 1;station 0 0 1 0;set 0 10;load 30;");
        y.run(1);
        y.set(0, 4);
        y.run(1);
        Checks.due("feed from now on", y.mass(8, 0), 4);
    }

    private static void staffing() {
        RecyclingLine x = Checks.lineOf("materials 1;station 0 3 10 0;station 0 2 7 0;set 6 5;load 99;");
        x.run(1);
        Checks.due("tired", x.station(0, 4), 5);
        Checks.due("staff", x.staff(0, 3), 3);
        Checks.due("as many as before, but not tired", x.station(0, 4), 0);
        Checks.due("staff", x.staff(1, 9), 2);
        Checks.due("capacity", x.station(1, 5), 63);
        Checks.due("staff", x.staff(1, 0), 9);
        Checks.due("capacity of none", x.station(1, 5), 0);
        Checks.due("pickers", x.station(1, 1), 0);
    }

    private static void cleaning() {
        RecyclingLine x = Checks.lineOf("materials 2;station 0 1 10 30;station 1 1 5 0;load 20 20;load 20 20;");
        x.run(2);
        Checks.due("bunker", x.station(0, 6), 24);
        Checks.due("clean", x.clean(0), 24);
        Checks.due("bunker", x.station(0, 6) + x.mass(0, 0) + x.mass(0, 1), 0);
        Checks.due("the other bunker", x.station(1, 6), 5);
        Checks.due("taken away", x.balance(7), 24L);
        Checks.due("picked stays", x.station(0, 10), 24);
        Checks.due("clean again", x.clean(0), 0);
        Checks.due("clean the other", x.clean(1), 5);
        Checks.due("taken away", x.balance(7), 29L);
        Checks.due("an empty bunker is cleaned as a change", x.undo(), 3);
    }

    private static void selling() {
        RecyclingLine x = Checks.lineOf(BALES + "buyer a 0 2 1000 20 24;buyer b 0 1 1000 99 99;buyer c 1 2 1 99 99;");
        x.run(1);
        Checks.dueThrow("a worse grade than the buyer takes", ARGUMENT, () -> x.sell(0, 1));
        Checks.dueThrow("another material", ARGUMENT, () -> x.sell(0, 2));
        Checks.due("sell", x.sell(1, 0), 400);
        Checks.due("the last one moves on", x.bale(1, 0), 2);
        Checks.due("the first one stays", x.bale(0, 0), 0);
        Checks.due("its purity", x.bale(1, 3), 75);
        Checks.due("its mass", x.bale(1, 5), 15);
        Checks.due("stock", x.line(6), 2);
        Checks.due("sold", x.line(8), 1);
        Checks.due("sent back", x.line(9), 0);
        Checks.due("claims", x.line(10), 0);
        Checks.due("paid", x.buyer(0, 5), 400);
        Checks.due("mass sold", x.balance(5), 20L);
        Checks.due("mass in stock", x.balance(4), 40L);
        Checks.due("pressed so far", x.line(7), 3);
        Checks.due("sell", x.sell(0, 0), 400);
        Checks.due("paid in all", x.buyer(0, 5), 800);
        Checks.due("an impurity of 25 is sent back", x.sell(0, 0), -1);
        x.load(0, 60);
        Checks.due("three more", x.run(1) + x.run(1), 4);
        int[] serials = {3, 4, 5, 6};
        for (int bale = 0; bale < 4; bale++) {
            Checks.due("serial number of a later bale", x.bale(bale, 0), serials[bale]);
        }
        for (int bale = 0; bale < 4; bale++) {
            x.undo();
        }
        Checks.due("an impurity of 25 is sent back", x.sell(0, 0), -1);
        Checks.due("paid still", x.buyer(0, 5), 800);
        Checks.dueThrow("an empty stock", INDEX, () -> x.sell(0, 0));
        Checks.dueThrow("an empty stock", INDEX, () -> x.bale(0, 0));
    }

    private static void sellingFromAFullStock() {
        RecyclingLine x = Checks.lineOf("materials 1;station 0 9 50 0;set 0 200;set 1 20;buyer a 0 2 7 0 0;load 999;");
        x.run(5);
        Checks.due("stock", x.line(6), 40);
        Checks.due("sell the first", x.sell(0, 0), 7);
        Checks.due("sell the last", x.sell(38, 0), 7);
        Checks.due("stock", x.line(6), 38);
        Checks.due("the first then", x.bale(0, 0), 1);
        Checks.due("the last then", x.bale(37, 0), 38);
        Checks.due("two places for new ones", x.run(1), 2);
        for (int bale = 0; bale < 40; bale++) {
            Checks.due("serial number", x.bale(bale, 0), bale < 38 ? bale + 1 : bale + 2);
        }
    }

    private static void payingByGrade() {
        int[][] cases = {{80, 80, 33}, {81, 80, 23}, {81, 81, 13}};
        for (int[] grade : cases) {
            RecyclingLine x = Checks.lineOf(BALES + "buyer a 0 2 33 20 20;");
            x.set(2, grade[0]);
            x.set(3, grade[1]);
            x.run(1);
            Checks.due("the worth with the limits " + grade[0] + " and " + grade[1], x.sell(0, 0), grade[2]);
        }
        RecyclingLine x = Checks.lineOf(BALES + "buyer a 0 0 50 20 20;buyer b 0 1 50 20 20;set 2 81;set 3 80;");
        x.run(1);
        Checks.dueThrow("grade 1 for a buyer of grade 0", ARGUMENT, () -> x.sell(0, 0));
        Checks.due("grade 1 for a buyer of grade 1", x.sell(0, 1), 35);
    }

    private static void claiming() {
        // An impurity of 20, and a worth of 400 each.
        int[][] cases = {{20, 2, 400, 0}, {19, 2, 380, 1}, {10, 2, 200, 1}, {0, 2, 0, 1}, {1, 2, 20, 1}, {0, 20, 0, 1},
            {0, 0, 400, 1}, {19, 0, 400, 1}, {20, 20, 400, 0}};
        for (int[] one : cases) {
            RecyclingLine x = Checks.lineOf(BALES + "buyer a 0 2 1000 " + one[0] + " 20;");
            x.run(1);
            x.set(7, one[1]);
            String what = "with a tolerance of " + one[0] + " and a claim of " + one[1];
            Checks.due("what is paid " + what, x.sell(0, 0), one[2]);
            Checks.due("claims " + what, x.line(10), one[3]);
            Checks.due("sold " + what, x.line(8), 1);
        }
        RecyclingLine x = Checks.lineOf(BALES + "buyer a 0 2 9999 0 100;buyer b 0 2 99 19 100;");
        x.run(1);
        x.set(7, 1);
        Checks.due("3999 less 1999", x.sell(0, 0), 2000);
        Checks.due("39 less 0", x.sell(0, 1), 39);
        Checks.due("claims", x.line(10), 2);
    }

    private static void sendingBack() {
        RecyclingLine x = Checks.lineOf(BALES + "buyer a 0 2 1000 0 19;");
        x.load(1, 50);
        x.run(1);
        Checks.due("sell", x.sell(0, 0), -1);
        Checks.due("hopper", x.line(4), 2);
        Checks.due("mass of the target", x.mass(17, 0), 16);
        Checks.due("mass of the other", x.mass(17, 1), 4);
        Checks.due("sold", x.line(8), 0);
        Checks.due("sent back", x.line(9), 1);
        Checks.due("claims", x.line(10), 0);
        Checks.due("stock", x.line(6), 2);
        Checks.due("paid", x.buyer(0, 5), 0);
        Checks.due("mass sold", x.balance(5), 0L);
        Checks.due("mass in the hopper", x.balance(1), 70L);
        Checks.due("loaded", x.balance(0), 150L);
        Checks.due("pressed for it still", x.purity(0), 47.0 / 60.0);
        x.staff(0, 0);
        x.run(2);
        Checks.due("it comes with 0 rounds", x.station(0, 8), 0);
        RecyclingLine y = Checks.lineOf(BALES + "buyer a 0 2 1000 0 24;buyer b 1 2 1 0 0;");
        y.run(1);
        for (int i = 0; i < 29; i++) {
            y.load(0, 1);
        }
        Checks.due("the last place of the hopper", y.sell(2, 0), -1);
        Checks.due("hopper", y.line(4), 30);
        Checks.due("it is the last parcel", y.mass(45, 0) * 100 + y.mass(45, 1), 1505);
        Checks.due("a bale that is not sent back", y.sell(1, 0), 0);
        y.undo();
        y.undo();
        y.load(0, 1);
        String before = Checks.everything(y);
        Checks.dueThrow("no place to send it", STATE, () -> y.sell(2, 0));
        Checks.dueThrow("not taken at all", ARGUMENT, () -> y.sell(2, 1));
        Checks.dueThrow("no such bale", INDEX, () -> y.sell(3, 0));
        Checks.dueThrow("no such buyer", INDEX, () -> y.sell(0, 2));
        Checks.due("nothing was changed", Checks.everything(y), before);
    }

    private static void undoing() {
        RecyclingLine x = Checks.lineOf("materials 1;station 0 0 1 0;");
        Checks.due("nothing to undo", x.undo(), -1);
        for (int i = 1; i <= 8; i++) {
            x.load(0, i);
        }
        for (int left = 5; left >= 0; left--) {
            Checks.due("undo", x.undo(), left);
            Checks.due("hopper", x.line(4), left + 2);
        }
        Checks.due("no more", x.undo(), -1);
        Checks.due("hopper", x.line(4), 2);
        Checks.due("balance", x.balance(0), 3L);
        x.load(0, 50);
        Checks.due("a later change", x.mass(18, 0), 50);
        Checks.due("undo of it", x.undo(), 0);
        // Changes that change nothing count, too; those that throw do not.
        x.set(0, 50);
        x.staff(0, 0);
        x.clean(0);
        Checks.outcome(() -> x.set(0, 0));
        Checks.outcome(() -> x.load(0, 0));
        Checks.outcome(() -> x.staff(0, 10));
        Checks.outcome(() -> x.run(0));
        Checks.outcome(() -> x.clean(1));
        Checks.outcome(() -> x.sell(0, 0));
        x.outlook(1, 0);
        x.bestStaff(0, 1);
        x.emptied();
        x.append(1, 2, 3, 4, 5);
        Checks.due("undo", x.undo(), 2);
        Checks.due("the buffer stays", x.bufferLength(), 20);
        x.find();
        Checks.due("find is no change", x.undo(), 1);
        Checks.type(x, "materials");
        x.read();
        Checks.due("nor is a refused text", x.undo(), 0);
        x.set(0, 9);
        Checks.type(x, "materials 1;station 0 0 1 0;");
        x.read();
        Checks.due("read forgets", x.undo(), -1);
    }

    private static void undoingAll() {
        for (int kept = 0; kept <= 6; kept++) {
            RecyclingLine before = lineToChange();
            change(before, kept);
            RecyclingLine x = lineToChange();
            change(x, 6);
            for (int left = 5; left >= kept; left--) {
                Checks.due("undo", x.undo(), left);
            }
            Checks.due("all as after " + kept + " changes", Checks.everything(x), Checks.everything(before));
            Checks.type(x, "b");
            Checks.due("the names of the buyers", x.find(), 1);
            // What is changed then is changed as if nothing had been undone.
            before.run(3);
            x.run(3);
            Checks.due("all as three ticks later", Checks.everything(x), Checks.everything(before));
            Checks.due("undo", x.undo(), Math.min(kept, 5));
        }
    }

    private static RecyclingLine lineToChange() {
        RecyclingLine x = Checks.lineOf(BALES + "station 1 2 9 0;buyer a 0 2 1000 10 20;buyer b 0 2 1000 0 0;load 9 9;");
        x.load(1, 5);
        x.run(1);
        return x;
    }

    private static void change(RecyclingLine x, int changes) {
        for (int i = 0; i < changes; i++) {
            switch (i) {
                case 0: x.sell(0, 0); break;
                case 1: x.sell(0, 1); break;
                case 2: x.run(7); break;
                case 3: x.clean(0); break;
                case 4: x.staff(1, 4); break;
                default: x.set(6, 3); break;
            }
        }
    }

    private static void bestBuyers() {
        RecyclingLine x = Checks.lineOf(BALES
            + "buyer a 1 2 9999 99 99;buyer b 0 1 9999 99 99;buyer c 0 2 1000 20 24;buyer d 0 2 1000 99 99;");
        x.run(1);
        Checks.due("of two that pay 400 the lower", x.bestBuyer(0), 2);
        Checks.due("one would send it back", x.bestBuyer(2), 3);
        RecyclingLine y = Checks.lineOf(BALES + "buyer a 0 2 1000 18 99;buyer b 0 2 901 99 99;buyer c 0 2 9999 0 19;");
        y.run(1);
        Checks.due("a claim of 40 leaves 360 to 360", y.bestBuyer(0), 0);
        y.set(7, 3);
        Checks.due("a claim of 60 is too much", y.bestBuyer(0), 1);
        RecyclingLine z = Checks.lineOf(BALES + "buyer a 0 2 1 0 99;buyer b 0 2 2 0 99;");
        z.run(1);
        Checks.due("one who pays nothing is one", z.bestBuyer(0), 0);
        RecyclingLine none = Checks.lineOf(BALES + "buyer a 0 2 9999 0 19;");
        none.run(1);
        Checks.due("none", none.bestBuyer(0), -1);
        Checks.due("none of none", bestOfNoBuyers(), -1);
    }

    private static int bestOfNoBuyers() {
        RecyclingLine x = Checks.lineOf(BALES);
        x.run(1);
        return x.bestBuyer(0);
    }

    private static void outlooks() {
        for (int ticks = 1; ticks <= 30; ticks++) {
            RecyclingLine x = Checks.lineOf("materials 3;station 0 3 9 20;station 1 1 30 5;set 0 60;set 1 40;set 2 85;"
                + "set 6 4;load 90 60 9;load 20 99 40;load 50;buyer a 0 2 10 0 0;");
            x.run(8);
            Checks.due("there are bales of grade 0 and others", x.line(7) > 1 && x.bale(0, 4) * x.bale(1, 4) == 0, true);
            Checks.due("and residue", x.balance(6) > 0, true);
            x.load(0, 60);
            outlook(x, ticks);
        }
        RecyclingLine y = Checks.lineOf("materials 1;station 0 0 1 0;set 0 10;load 30;");
        int[] rounds = {0, 1, 2, 3, 4, 5, 6, 6, 6, 6};
        for (int ticks = 1; ticks <= 10; ticks++) {
            Checks.due("parcels that go round in " + ticks, y.outlook(ticks, 3), rounds[ticks - 1]);
        }
        y.run(3);
        Checks.due("only those to come", y.outlook(10, 3), 4);
        Checks.due("in 200 ticks", y.outlook(200, 2), 30);
        Checks.due("no one is tired", y.outlook(200, 4), 0);
        Checks.due("undo", y.undo(), 0);
    }

    private static void outlook(RecyclingLine x, int ticks) {
        String before = Checks.everything(x);
        int[] told = new int[5];
        for (int what = 0; what < 5; what++) {
            told[what] = x.outlook(ticks, what);
        }
        Checks.due("nothing is changed", Checks.everything(x), before);
        long residue = x.balance(6);
        int stock = x.line(6);
        Checks.due("outlook(, 0)", told[0], x.run(ticks));
        int best = 0;
        for (int bale = stock; bale < x.line(6); bale++) {
            best += x.bale(bale, 4) == 0 ? 1 : 0;
        }
        Checks.due("outlook(, 1)", told[1], best);
        Checks.due("outlook(, 2)", (long) told[2], x.balance(6) - residue);
        Checks.due("outlook(, 4)", told[4], Math.max(x.station(0, 4), x.station(1, 4)));
    }

    private static void bestStaffs() {
        RecyclingLine x = Checks.lineOf("materials 2;station 1 1 5 0;station 0 1 10 0;set 0 35;load 35;load 0 35;");
        String before = Checks.everything(x);
        Checks.due("nothing comes so soon", x.bestStaff(1, 1), 0);
        Checks.due("35 need 4 with 10", x.bestStaff(1, 2), 4);
        Checks.due("nothing for it in one tick", x.bestStaff(0, 1), 0);
        Checks.due("35 need 7 with 5", x.bestStaff(0, 2), 7);
        Checks.due("nothing is changed", Checks.everything(x), before);
        Checks.due("nor to undo", x.undo(), -1);
        x.load(1, 50);
        x.set(0, 45);
        Checks.due("45 need all 9 with 5", x.bestStaff(0, 3), 9);
        // Those who are there are tired, those who came would not be.
        RecyclingLine y = Checks.lineOf("materials 1;station 0 4 10 0;set 0 40;set 5 0;set 6 5;load 999;");
        y.run(12);
        Checks.due("tired", y.station(0, 4), 60);
        Checks.due("4 are enough for one tick", y.bestStaff(0, 1), 4);
        Checks.due("for two ticks 5", y.bestStaff(0, 2), 5);
        // What is picked of others counts, too, and of what was picked before nothing.
        RecyclingLine z = Checks.lineOf("materials 2;station 0 1 10 30;set 0 100;set 5 0;load 50 50;load 50 50;");
        z.run(1);
        Checks.due("50 and 15 of others", z.bestStaff(0, 1), 5);
        z.staff(0, 9);
        Checks.due("whoever is there now", z.bestStaff(0, 1), 5);
    }

    private static void emptyings() {
        RecyclingLine x = Checks.lineOf("materials 1;station 0 0 1 0;set 5 0;set 0 1;load 398;");
        Checks.due("399 ticks", x.emptied(), 399);
        x.load(0, 1);
        Checks.due("400 ticks", x.emptied(), 400);
        x.load(0, 1);
        Checks.due("401 ticks are too many", x.emptied(), -1);
        x.run(1);
        Checks.due("400 ticks", x.emptied(), 400);
        x.run(200);
        x.run(199);
        Checks.due("something is on the belt", x.line(5), 1);
        Checks.due("one tick", x.emptied(), 1);
        x.run(1);
        Checks.due("emptied", x.emptied(), 0);
        RecyclingLine y = Checks.lineOf("materials 1;station 0 9 50 0;station 0 9 50 0;load 50;");
        Checks.due("a parcel picked empty", y.emptied(), 1);
        Checks.due("nothing is changed", y.line(3) + y.line(5), 0);
        y.staff(0, 0);
        Checks.due("it is picked empty later", y.emptied(), 2);
    }

    private static void wrongInputs() {
        RecyclingLine x = Checks.lineOf(BALES + "buyer a 0 2 1 99 99;");
        x.run(1);
        String before = Checks.everything(x);
        for (int wrong : WRONG) {
            Checks.dueThrow("load", INDEX, () -> x.load(wrong, wrong));
            Checks.dueThrow("load", ARGUMENT, () -> x.load(0, wrong));
            Checks.dueThrow("set", INDEX, () -> x.set(wrong, wrong));
            Checks.dueThrow("set", ARGUMENT, () -> x.set(0, wrong));
            Checks.dueThrow("staff", INDEX, () -> x.staff(wrong, wrong));
            Checks.dueThrow("staff", ARGUMENT, () -> x.staff(0, wrong));
            Checks.dueThrow("run", ARGUMENT, () -> x.run(wrong));
            Checks.dueThrow("sell", INDEX, () -> x.sell(wrong, 0));
            Checks.dueThrow("sell", INDEX, () -> x.sell(0, wrong));
            Checks.dueThrow("clean", INDEX, () -> x.clean(wrong));
            Checks.dueThrow("bestBuyer", INDEX, () -> x.bestBuyer(wrong));
            Checks.dueThrow("outlook", ARGUMENT, () -> x.outlook(wrong, 0));
            Checks.dueThrow("outlook", ARGUMENT, () -> x.outlook(1, wrong));
            Checks.dueThrow("bestStaff", INDEX, () -> x.bestStaff(wrong, wrong));
            Checks.dueThrow("bestStaff", ARGUMENT, () -> x.bestStaff(0, wrong));
        }
        Checks.dueThrow("load(2, 1)", INDEX, () -> x.load(2, 1));
        Checks.dueThrow("load(0, 0)", ARGUMENT, () -> x.load(0, 0));
        Checks.dueThrow("set(8, 1)", INDEX, () -> x.set(8, 1));
        Checks.dueThrow("staff(1, 1)", INDEX, () -> x.staff(1, 1));
        Checks.dueThrow("staff(0, 10)", ARGUMENT, () -> x.staff(0, 10));
        Checks.dueThrow("clean(1)", INDEX, () -> x.clean(1));
        Checks.dueThrow("bestBuyer(3)", INDEX, () -> x.bestBuyer(3));
        Checks.dueThrow("outlook(0, 0)", ARGUMENT, () -> x.outlook(0, 0));
        Checks.dueThrow("outlook(201, 0)", ARGUMENT, () -> x.outlook(201, 0));
        Checks.dueThrow("outlook(1, 5)", ARGUMENT, () -> x.outlook(1, 5));
        Checks.dueThrow("bestStaff(1, 1)", INDEX, () -> x.bestStaff(1, 1));
        Checks.dueThrow("bestStaff(0, 0)", ARGUMENT, () -> x.bestStaff(0, 0));
        Checks.dueThrow("bestStaff(0, 101)", ARGUMENT, () -> x.bestStaff(0, 101));
        Checks.due("the greatest ticks", x.bestStaff(0, 100), 0);
        Checks.due("nothing was changed", Checks.everything(x), before);
        Checks.due("undo", x.undo(), 0);
    }
}
