/** The boundaries of promises 23 to 26, the questions that change nothing. */
final class QuestionBoundaries {
    private static final Class<IndexOutOfBoundsException> INDEX = IndexOutOfBoundsException.class;
    private static final Class<IllegalArgumentException> ARGUMENT = IllegalArgumentException.class;
    private static final int[] FAR = {Integer.MIN_VALUE, -1000, 1000, Integer.MAX_VALUE};

    /** It presses three bales of 20 in its first tick, of grade 2: of 16 and 4, 16 and 4, 15 and 5. */
    private static final String BALES = "materials 2;station 0 9 50 30;set 1 20;set 0 200;load 60 40;";

    private QuestionBoundaries() {
    }

    static void all() {
        Checks.each(QuestionBoundaries::bestOfSeveral, QuestionBoundaries::bestNotCounted,
            QuestionBoundaries::bestOfNone, QuestionBoundaries::bestBuyerOfNoBale, QuestionBoundaries::outlookIsRun,
            QuestionBoundaries::outlookOnTheLastTick, QuestionBoundaries::outlookOfNothing,
            QuestionBoundaries::outlookOfGrades, QuestionBoundaries::outlookOfResidue,
            QuestionBoundaries::outlookOfRounds, QuestionBoundaries::outlookOfTiredness,
            QuestionBoundaries::outlookOutOfRange, QuestionBoundaries::leastStaff, QuestionBoundaries::greatestStaff,
            QuestionBoundaries::staffWhoAreNotTired, QuestionBoundaries::othersPicked,
            QuestionBoundaries::staffOnTheLastTick, QuestionBoundaries::bestStaffOfNoStation,
            QuestionBoundaries::bestStaffOutOfRange, QuestionBoundaries::emptiedAtOnce,
            QuestionBoundaries::emptiedWithin400, QuestionBoundaries::notEmptied,
            QuestionBoundaries::emptiedOnTheLastTick, QuestionBoundaries::questionsChangeNothing);
    }

    private static RecyclingLine ticked(int ticks, String text) {
        RecyclingLine x = Checks.lineOf(text);
        x.run(ticks);
        return x;
    }

    /** A line that has made 9999 ticks, and then got these. */
    private static RecyclingLine lastTick(String text) {
        RecyclingLine x = Checks.lineOf(text);
        for (int i = 0; i < 50; i++) {
            x.run(i < 49 ? 200 : 199);
        }
        Checks.due("ticks", x.line(3), 9999);
        return x;
    }

    private static void bestOfSeveral() {
        Sentences.holds(23, "Returns the buyer that would pay most for the bale, of several the lowest");
        String[] four = {"a", "b", "c", "d"};
        int[][] prices = {{100, 100, 100, 100, 0}, {99, 100, 100, 100, 0}, {97, 99, 100, 102, 3}, {100, 103, 105, 105, 2},
            {103, 100, 100, 100, 0}, {90, 103, 100, 105, 3}, {1, 2, 1, 2, 0}, {1, 2, 3, 4, 2}};
        for (int[] price : prices) {
            StringBuilder text = new StringBuilder(BALES);
            for (int i = 0; i < 4; i++) {
                text.append("buyer ").append(four[i]).append(" 0 2 ").append(price[i]).append(" 99 99;");
            }
            // What is paid counts: 99, 100, 101 and 102 * 40 / 100 are 39, 40, 40 and 40.
            int due = bestOf(price);
            Checks.due("best of " + text, ticked(1, text.toString()).bestBuyer(0), due);
        }
        RecyclingLine claims = ticked(1, BALES + "set 7 1;buyer a 0 2 1000 19 99;buyer b 0 2 975 20 99;buyer c 0 2 977 20 99;");
        Checks.due("400 less 10, 390 and 390", claims.bestBuyer(0), 0);
        claims.set(7, 2);
        Checks.due("400 less 20, 390 and 390", claims.bestBuyer(0), 1);
        Checks.due("400 less 120, 390 less 97", claims.bestBuyer(2), 1);
    }

    private static int bestOf(int[] price) {
        int best = 0;
        for (int i = 1; i < 4; i++) {
            best = price[i] * 40 / 100 > price[best] * 40 / 100 ? i : best;
        }
        return best;
    }

    private static void bestNotCounted() {
        Sentences.holds(23, "those that do not take it or would send it back not counted");
        RecyclingLine x = ticked(1, BALES + "buyer a 1 2 9999 99 99;buyer b 0 1 9999 99 99;buyer c 0 2 9999 99 19;buyer d 0 2 1 0 20;");
        Checks.due("of 16 and 4, for nothing", x.bestBuyer(0), 3);
        Checks.due("of 15 and 5, none is left", x.bestBuyer(2), -1);
    }

    private static void bestOfNone() {
        Sentences.holds(23, "NONE if there is none");
        Checks.due("no buyers", ticked(1, BALES).bestBuyer(0), -1);
        Checks.due("another material", ticked(1, BALES + "buyer a 1 2 9 99 99;").bestBuyer(0), -1);
        Checks.due("a worse grade", ticked(1, BALES + "buyer a 0 1 9 99 99;").bestBuyer(0), -1);
        Checks.due("sent back", ticked(1, BALES + "buyer a 0 2 9 99 19;").bestBuyer(0), -1);
        Checks.due("one who pays nothing is one", ticked(1, BALES + "buyer a 0 2 1 99 99;").bestBuyer(0), 0);
    }

    private static void bestBuyerOfNoBale() {
        Sentences.holds(23, "Throws IndexOutOfBoundsException if there is no such bale",
            "bale: an index into the stock");
        RecyclingLine x = Checks.lineOf(BALES + "buyer a 0 2 9 99 99;");
        Checks.dueThrow("an empty stock", INDEX, () -> x.bestBuyer(0));
        x.run(1);
        Checks.dueThrow("-1", INDEX, () -> x.bestBuyer(-1));
        Checks.due("2 of 3", x.bestBuyer(2), 0);
        Checks.dueThrow("3 of 3", INDEX, () -> x.bestBuyer(3));
        for (int bale : FAR) {
            Checks.dueThrow("bale " + bale, INDEX, () -> x.bestBuyer(bale));
        }
        RecyclingLine full = ticked(4, "materials 1;station 0 9 50 0;set 0 200;set 1 20;load 800;");
        Checks.due("39 of 40", full.bestBuyer(39), -1);
        Checks.dueThrow("40 of 40", INDEX, () -> full.bestBuyer(40));
        x.sell(0, 0);
        Checks.dueThrow("2 of 2", INDEX, () -> x.bestBuyer(2));
    }

    private static void outlookIsRun() {
        Sentences.holds(24, "Tells what run() would bring now", "Returns the number.");
        for (int ticks : new int[] {1, 2, 3, 199, 200}) {
            RecyclingLine x = ticked(1, BALES + "station 1 2 9 0;set 4 1;load 80 9;load 999 999;");
            long residue = x.balance(6);
            int pressed = x.outlook(ticks, 0);
            int more = x.outlook(ticks, 2);
            int tired = x.outlook(ticks, 4);
            Checks.due("bales in " + ticks, pressed, x.run(ticks));
            Checks.due("residue in " + ticks, (long) more, x.balance(6) - residue);
            Checks.due("tiredness after " + ticks, tired, Math.max(x.station(0, 4), x.station(1, 4)));
        }
    }

    private static void outlookOnTheLastTick() {
        Sentences.holds(24, "(more than 9999 ticks in all do not matter here)");
        RecyclingLine x = lastTick("materials 1;station 0 9 50 0;set 0 20;set 1 20;");
        x.load(0, 40);
        Checks.due("bales in one more", x.outlook(1, 0), 1);
        Checks.due("bales in 200 more", x.outlook(200, 0), 2);
        Checks.due("tiredness after two more", x.outlook(2, 4), 2);
        Checks.due("ticks", x.line(3), 9999);
    }

    private static void outlookOfNothing() {
        Sentences.holds(24, "what: 0 the bales pressed");
        RecyclingLine x = new RecyclingLine();
        for (int what = 0; what <= 4; what++) {
            Checks.due("outlook(1, " + what + ") of nothing", x.outlook(1, what), 0);
            Checks.due("outlook(200, " + what + ") of nothing", x.outlook(200, what), 0);
        }
        RecyclingLine y = Checks.lineOf("materials 1;station 0 9 50 0;set 0 19;set 1 20;load 39;load 1;load 960;set 6 0;");
        Checks.due("19", y.outlook(1, 0), 0);
        Checks.due("38", y.outlook(2, 0), 1);
        Checks.due("39", y.outlook(3, 0), 1);
        Checks.due("40", y.outlook(4, 0), 2);
        Checks.due("up to 40", y.outlook(200, 0), 40);
        y.run(3);
        Checks.due("only those to come", y.outlook(1, 0), 1);
        y.run(197);
        Checks.due("none into a full stock", y.outlook(200, 0), 0);
    }

    private static void outlookOfGrades() {
        Sentences.holds(24, "1 the bales of grade 0 among them");
        String[][] limits = {{"80", "2"}, {"81", "0"}, {"75", "3"}, {"76", "2"}, {"0", "3"}, {"100", "0"}};
        for (String[] limit : limits) {
            RecyclingLine x = Checks.lineOf(BALES + "set 2 " + limit[0] + ";set 3 0;load 60;");
            Checks.due("with a limit of " + limit[0], x.outlook(1, 1), Integer.parseInt(limit[1]));
            x.run(1);
            // What is left in the bunker, 13 and 5, and 60: bales of 17 and 3 at least.
            Checks.due("only those to come", x.outlook(1, 1), limit[0].equals("100") ? 0 : x.outlook(1, 0));
        }
        RecyclingLine first = ticked(1, BALES + "set 2 80;load 20;");
        Checks.due("only those to come, when asked for the first time", first.outlook(1, 1), 1);
    }

    private static void outlookOfResidue() {
        Sentences.holds(24, "2 the residue that comes");
        RecyclingLine x = Checks.lineOf("materials 2;station 0 0 1 0;set 0 10;load 0 25;");
        int[] due = {0, 10, 20, 25, 25};
        for (int ticks = 1; ticks <= 5; ticks++) {
            Checks.due("in " + ticks, x.outlook(ticks, 2), due[ticks - 1]);
        }
        x.run(2);
        Checks.due("only what is to come", x.outlook(200, 2), 15);
        x.run(2);
        Checks.due("nothing more", x.outlook(200, 2), 0);
    }

    private static void outlookOfRounds() {
        Sentences.holds(24, "3 the parcels that go round again");
        RecyclingLine x = Checks.lineOf("materials 1;station 0 0 1 0;set 0 10;load 20;");
        int[] due = {0, 1, 2, 3, 4, 4, 4};
        for (int ticks = 1; ticks <= 7; ticks++) {
            Checks.due("in " + ticks, x.outlook(ticks, 3), due[ticks - 1]);
        }
        x.run(2);
        Checks.due("only those to come", x.outlook(200, 3), 3);
        x.set(5, 0);
        Checks.due("none without rounds", x.outlook(200, 3), 0);
        RecyclingLine full = Checks.lineOf("materials 1;station 0 0 1 0;set 0 1;" + "load 9;".repeat(30));
        Checks.due("none into a full hopper", full.outlook(9, 3), 0);
        // The ninth tick takes the last of the first parcel: one place for what leaves in the tenth.
        Checks.due("one in the tenth", full.outlook(10, 3), 1);
        Checks.due("none in the eleventh", full.outlook(11, 3), 1);
    }

    private static void outlookOfTiredness() {
        Sentences.holds(24, "4 the greatest tiredness of a station behind them");
        RecyclingLine x = Checks.lineOf("materials 2;station 0 9 50 0;station 1 9 50 0;set 6 5;set 0 10;load 10;load 0 30;");
        // The first station picks in tick 1, the second one in ticks 3 to 5.
        int[] due = {5, 3, 5, 10, 15, 13, 11};
        for (int ticks = 1; ticks <= 7; ticks++) {
            Checks.due("after " + ticks, x.outlook(ticks, 4), due[ticks - 1]);
        }
        Checks.due("after 200", x.outlook(200, 4), 0);
        RecyclingLine last = Checks.lineOf("materials 1;" + "station 0 0 1 0;".repeat(7) + "station 0 9 50 0;load 9;");
        Checks.due("of the last of eight", last.outlook(8, 4), 1);
        RecyclingLine most = Checks.lineOf("materials 1;station 0 9 50 0;set 6 5;set 0 1;load 999;");
        Checks.due("after 11", most.outlook(11, 4), 55);
        Checks.due("after 12", most.outlook(12, 4), 60);
        Checks.due("after 200", most.outlook(200, 4), 60);
    }

    private static void outlookOutOfRange() {
        Sentences.holds(24, "Throws IllegalArgumentException if ticks or what is out of range", "ticks: 1 to 200");
        RecyclingLine x = new RecyclingLine();
        Checks.dueThrow("0 ticks", ARGUMENT, () -> x.outlook(0, 0));
        Checks.dueThrow("-1 ticks", ARGUMENT, () -> x.outlook(-1, 0));
        Checks.dueThrow("201 ticks", ARGUMENT, () -> x.outlook(201, 0));
        Checks.dueThrow("what -1", ARGUMENT, () -> x.outlook(1, -1));
        Checks.dueThrow("what 5", ARGUMENT, () -> x.outlook(1, 5));
        Checks.dueThrow("both", ARGUMENT, () -> x.outlook(0, 5));
        for (int wrong : FAR) {
            Checks.dueThrow(wrong + " ticks", ARGUMENT, () -> x.outlook(wrong, 0));
            Checks.dueThrow("what " + wrong, ARGUMENT, () -> x.outlook(1, wrong));
        }
        Checks.due("the least", x.outlook(1, 0), 0);
        Checks.due("the greatest", x.outlook(200, 4), 0);
    }

    private static void leastStaff() {
        Sentences.holds(25, "of several the least");
        RecyclingLine x = Checks.lineOf("materials 1;station 0 5 10 0;set 0 40;load 40;");
        Checks.due("40 need 4 with 10", x.bestStaff(0, 1), 4);
        Checks.due("nothing to pick", new RecyclingLine().bestStaff(0, 1), 0);
        Checks.due("nothing to pick in 100", new RecyclingLine().bestStaff(0, 100), 0);
        for (int load = 1; load <= 9; load++) {
            RecyclingLine y = Checks.lineOf("materials 1;station 0 3 1 0;load " + load + ";");
            Checks.due(load + " need as many with 1", y.bestStaff(0, 1), load);
        }
        RecyclingLine later = Checks.lineOf("materials 2;station 0 1 9 0;station 1 9 9 0;load 0 9;");
        Checks.due("what comes in the second tick, in one", later.bestStaff(1, 1), 0);
        Checks.due("in two", later.bestStaff(1, 2), 1);
        Checks.due("none of its target", later.bestStaff(0, 2), 0);
    }

    private static void greatestStaff() {
        Sentences.holds(25, "Returns the number of pickers, 0 to 9, with which, if staff() were called now and so"
            + " many ticks were made then, the station would have picked most in them");
        Checks.due("80 of 8", Checks.lineOf("materials 1;station 0 0 10 0;set 0 200;load 80;").bestStaff(0, 1), 8);
        Checks.due("81 of 9", Checks.lineOf("materials 1;station 0 0 10 0;set 0 200;load 81;").bestStaff(0, 1), 9);
        Checks.due("999 of 9", Checks.lineOf("materials 1;station 0 0 10 0;set 0 200;load 999;").bestStaff(0, 1), 9);
        Checks.due("in 100 ticks", Checks.lineOf("materials 1;station 0 0 1 0;set 0 200;set 6 0;load 999;").bestStaff(0, 100), 9);
        // What is picked in the ticks counts, not what was picked before.
        RecyclingLine x = ticked(1, "materials 1;station 0 9 10 0;set 0 30;load 60;");
        Checks.due("30 more", x.bestStaff(0, 1), 3);
        x.run(1);
        Checks.due("nothing more", x.bestStaff(0, 100), 0);
    }

    private static void staffWhoAreNotTired() {
        Sentences.holds(25, "if staff() were called now");
        RecyclingLine x = ticked(12, "materials 1;station 0 4 10 0;set 0 40;set 5 0;set 6 5;load 999;");
        Checks.due("tired", x.station(0, 4), 60);
        Checks.due("4 who are not", x.bestStaff(0, 1), 4);
        Checks.due("5 in the second tick", x.bestStaff(0, 2), 5);
        Checks.due("they are as tired as before", x.station(0, 4) * 10 + x.station(0, 1), 604);
        // The other stations stay as they are.
        RecyclingLine two = ticked(12, "materials 1;station 0 4 10 0;station 0 9 1 0;set 0 40;set 5 0;set 6 5;load 999;");
        two.run(1);
        Checks.due("16 of 40 are picked ahead of it", two.station(0, 5), 16);
        Checks.due("9 of 24", two.bestStaff(1, 1), 9);
    }

    private static void othersPicked() {
        Sentences.holds(25, "of its target and of others");
        // 4 and 1 of others are more than 3 and none; more than 4 find no more.
        RecyclingLine x = Checks.lineOf("materials 2;station 0 1 1 30;load 4 9;");
        Checks.due("4 with 1", x.bestStaff(0, 1), 4);
        // All of its target comes in two ticks as well, but only 4 at once bring one of others.
        RecyclingLine y = Checks.lineOf("materials 2;station 0 1 2 30;set 4 0;set 6 0;load 4 9;");
        Checks.due("2 with 2", y.bestStaff(0, 2), 2);
        RecyclingLine z = Checks.lineOf("materials 2;station 0 1 2 24;set 4 0;set 6 0;load 4 9;");
        Checks.due("4 * 24 / 100 are none", z.bestStaff(0, 2), 1);
    }

    private static void staffOnTheLastTick() {
        Sentences.holds(25, "(more than 9999 ticks in all do not matter here)");
        RecyclingLine x = lastTick("materials 1;station 0 0 10 0;set 0 30;set 6 0;");
        x.load(0, 30);
        Checks.due("in one more", x.bestStaff(0, 1), 3);
        Checks.due("in 100 more", x.bestStaff(0, 100), 1);
        Checks.due("ticks", x.line(3), 9999);
    }

    private static void bestStaffOfNoStation() {
        Sentences.holds(25, "Throws IndexOutOfBoundsException if there is no such station", "station: a station");
        for (int stations = 1; stations <= 8; stations++) {
            RecyclingLine x = Checks.lineOf("materials 1;" + "station 0 3 1 0;".repeat(stations));
            int none = stations;
            Checks.due("the last one", x.bestStaff(stations - 1, 1), 0);
            Checks.dueThrow("one more", INDEX, () -> x.bestStaff(none, 1));
            Checks.dueThrow("one more, and no such ticks", INDEX, () -> x.bestStaff(none, 0));
            Checks.dueThrow("-1", INDEX, () -> x.bestStaff(-1, 1));
            for (int station : FAR) {
                Checks.dueThrow("station " + station, INDEX, () -> x.bestStaff(station, 101));
            }
        }
    }

    private static void bestStaffOutOfRange() {
        Sentences.holds(25, "Throws IllegalArgumentException if ticks is out of range", "ticks: 1 to 100");
        RecyclingLine x = Checks.lineOf("materials 1;station 0 0 1 0;set 0 1;load 1;");
        Checks.dueThrow("0", ARGUMENT, () -> x.bestStaff(0, 0));
        Checks.dueThrow("-1", ARGUMENT, () -> x.bestStaff(0, -1));
        Checks.due("1", x.bestStaff(0, 1), 1);
        Checks.due("100", x.bestStaff(0, 100), 1);
        Checks.dueThrow("101", ARGUMENT, () -> x.bestStaff(0, 101));
        for (int ticks : FAR) {
            Checks.dueThrow(ticks + " ticks", ARGUMENT, () -> x.bestStaff(0, ticks));
        }
    }

    private static void emptiedAtOnce() {
        Sentences.holds(26, "Returns the least number of ticks, 0 to 400, after which the hopper and the belt are"
            + " empty");
        Checks.due("empty now", new RecyclingLine().emptied(), 0);
        RecyclingLine x = Checks.lineOf("materials 1;station 0 0 1 0;set 5 0;load 9;");
        Checks.due("hopper, belt, residue", x.emptied(), 2);
        x.run(1);
        Checks.due("an empty hopper is not enough", x.emptied(), 1);
        x.run(1);
        Checks.due("both are empty", x.emptied(), 0);
        RecyclingLine picked = Checks.lineOf("materials 1;station 0 9 50 0;load 50;");
        Checks.due("picked empty at once", picked.emptied(), 1);
        picked.run(1);
        Checks.due("a full bunker does not matter", picked.emptied(), 0);
        RecyclingLine eight = Checks.lineOf("materials 2;" + "station 0 0 1 0;".repeat(8) + "load 0 9;");
        Checks.due("along eight stations", eight.emptied(), 9);
        RecyclingLine round = Checks.lineOf("materials 1;station 0 0 1 0;set 5 5;load 9;");
        Checks.due("five rounds", round.emptied(), 7);
    }

    private static void emptiedWithin400() {
        Sentences.holds(26, "0 to 400");
        for (int load = 398; load <= 400; load++) {
            RecyclingLine x = Checks.lineOf("materials 1;station 0 0 1 0;set 5 0;set 0 1;load " + load + ";");
            Checks.due("by 1 of " + load, x.emptied(), load < 400 ? load + 1 : -1);
        }
    }

    private static void notEmptied() {
        Sentences.holds(26, "NONE if that is not so after 400 ticks");
        RecyclingLine x = Checks.lineOf("materials 1;station 0 0 1 0;set 5 0;set 0 1;load 401;");
        Checks.due("after 402", x.emptied(), -1);
        x.run(1);
        Checks.due("after 401", x.emptied(), -1);
        x.run(1);
        Checks.due("after 400", x.emptied(), 400);
        x.run(1);
        Checks.due("after 399", x.emptied(), 399);
        RecyclingLine most = Checks.lineOf("materials 6;station 0 0 1 0;set 0 1;load 999 999 999 999 999 999;");
        Checks.due("after thousands", most.emptied(), -1);
        // Only the hopper is empty after 400.
        RecyclingLine belt = Checks.lineOf("materials 1;station 0 0 1 0;set 5 0;set 0 1;load 400;");
        Checks.due("one is on the belt after 400", belt.emptied(), -1);
    }

    private static void emptiedOnTheLastTick() {
        Sentences.holds(26, "(more than 9999 ticks in all do not matter here)");
        RecyclingLine x = lastTick("materials 1;station 0 0 1 0;set 5 0;set 0 1;");
        Checks.due("empty now", x.emptied(), 0);
        x.load(0, 399);
        Checks.due("after 400 more", x.emptied(), 400);
        Checks.due("ticks", x.line(3), 9999);
    }

    private static void questionsChangeNothing() {
        Sentences.holds(24, "Tells what run() would bring now");
        RecyclingLine x = ticked(1, BALES + "station 1 2 9 0;buyer a 0 2 9 0 99;load 80 9;load 99 99;");
        Checks.type(x, "ab");
        String before = Checks.everything(x);
        x.bestBuyer(0);
        for (int what = 0; what <= 4; what++) {
            x.outlook(200, what);
        }
        x.bestStaff(1, 100);
        x.emptied();
        Checks.due("everything", Checks.everything(x), before);
        Checks.due("the buffer", x.bufferLength(), 2);
        Checks.due("what can be undone", x.undo(), 0);
        Checks.due("nothing more", x.undo(), -1);
        Checks.due("the tick is undone", x.line(3), 0);
    }
}
