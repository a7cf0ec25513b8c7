/** The boundaries of pressing bales (the last step of a tick), of grades, and of what buyers pay. */
final class BaleBoundaries {
    private static final Class<IllegalArgumentException> ARGUMENT = IllegalArgumentException.class;

    private BaleBoundaries() {
    }

    static void all() {
        Checks.each(BaleBoundaries::fullBunkers, BaleBoundaries::leastAndGreatestBales, BaleBoundaries::fullStock,
            BaleBoundaries::stationsInTheirOrder, BaleBoundaries::portionsOfBunkers, BaleBoundaries::lastInTheStock,
            BaleBoundaries::serialNumbers, BaleBoundaries::materialsOfBales, BaleBoundaries::purities,
            BaleBoundaries::grades, BaleBoundaries::gradesAsPressed, BaleBoundaries::buyersInTheirOrder,
            BaleBoundaries::rangesOfBuyers, BaleBoundaries::takenBales, BaleBoundaries::limits, BaleBoundaries::worths,
            BaleBoundaries::tolerances, BaleBoundaries::claims, BaleBoundaries::claimsUpToTheWorth);
    }

    /** A line that pressed one bale of 100 kilograms, of a material 0 and an impurity of at most 23. */
    private static RecyclingLine baleOf(int impurity, String more) {
        RecyclingLine x = Checks.lineOf("materials 2;station 0 9 50 30;set 0 200;load " + (100 - impurity) + " " + impurity + ";"
            + more);
        Checks.due("a bale is pressed", x.run(1), 1);
        Checks.due("its impurity", 100 - x.bale(0, 3), impurity);
        return x;
    }

    private static int pressedOf(int kilograms, int bale) {
        return Checks.lineOf("materials 1;station 0 9 50 0;set 0 200;set 1 " + bale + ";load " + kilograms + ";").run(1);
    }

    private static void fullBunkers() {
        Sentences.holds(0, "as long as the total of its bunker is at least bale");
        int[][] cases = {{1, 0}, {19, 0}, {20, 1}, {21, 1}, {39, 1}, {40, 2}, {41, 2}, {199, 9}, {200, 10}};
        for (int[] one : cases) {
            Checks.due("bales of " + one[0], pressedOf(one[0], 20), one[1]);
        }
        // The whole counts, not the target alone.
        RecyclingLine x = Checks.lineOf("materials 2;station 0 9 50 30;set 1 20;load 16 4;load 16 3;");
        Checks.due("16 and 4", x.run(1), 1);
        Checks.due("16 and 3", x.run(1), 0);
        Checks.due("what is in the bunker", x.station(0, 6), 19);
        // What is in the bunker counts, whenever it was picked, and the setting as it is then.
        x.load(0, 1);
        Checks.due("and 1", x.run(1), 1);
        RecyclingLine y = Checks.lineOf("materials 1;station 0 9 50 0;set 1 31;load 30;");
        Checks.due("30 of 31", y.run(1), 0);
        y.set(1, 30);
        Checks.due("30 of 30, without any picking", y.run(1), 1);
    }

    private static void leastAndGreatestBales() {
        Sentences.holds(0, "a bale is pressed: a portion of bale kilograms of the bunker");
        RecyclingLine least = Checks.lineOf("materials 1;station 0 9 50 0;set 1 20;load 50;");
        Checks.due("bales of 20", least.run(1), 2);
        Checks.due("the first one", least.bale(0, 2), 20);
        Checks.due("the second one", least.bale(1, 2), 20);
        Checks.due("what is left", least.station(0, 6), 10);
        RecyclingLine most = Checks.lineOf("materials 1;station 0 9 50 0;set 0 200;set 1 500;load 499;load 1;load 200;");
        Checks.due("499 of 500", most.run(3), 0);
        Checks.due("500 of 500", most.run(1), 1);
        Checks.due("the greatest bale", most.bale(0, 2), 500);
        Checks.due("what is left", most.station(0, 6), 0);
        Checks.due("again 200", most.run(1), 0);
    }

    private static void fullStock() {
        Sentences.holds(0, "and fewer than 40 bales are in stock");
        RecyclingLine x = Checks.lineOf("materials 1;station 0 9 50 0;set 0 200;set 1 20;set 6 0;buyer a 0 0 7 0 0;load 999;");
        x.run(3);
        x.set(0, 180);
        x.run(1);
        Checks.due("stock", x.line(6), 39);
        Checks.due("one more, although there is more", x.run(1), 1);
        Checks.due("stock", x.line(6), 40);
        Checks.due("what is left", x.station(0, 6), 160);
        Checks.due("none into a full stock", x.run(1), 0);
        Checks.due("what is left", x.station(0, 6), 160 + 39);
        x.sell(39, 0);
        Checks.due("one into the free place", x.run(1), 1);
        x.sell(0, 0);
        x.sell(0, 0);
        x.sell(20, 0);
        Checks.due("three into three", x.run(1), 3);
        Checks.due("stock", x.line(6), 40);
        Checks.due("what is left", x.station(0, 6), 199 - 80);
    }

    private static void stationsInTheirOrder() {
        Sentences.holds(0, "Station by station, in ascending order: as long as");
        // 39 bales in stock, and in one tick both stations get 20: only the first one presses them.
        RecyclingLine x = Checks.lineOf("materials 2;station 1 9 50 0;station 0 9 50 0;set 0 200;set 1 20;set 6 0;"
            + "load 780;load 20;load 0 20;load 0 20;");
        Checks.due("39 bales", x.run(5), 39);
        Checks.due("of the second station", x.station(1, 9), 39);
        Checks.due("the last place", x.run(1), 1);
        Checks.due("is that of the first station", x.station(0, 9), 1);
        Checks.due("the second one waits", x.station(1, 6), 20);
        Checks.due("none into a full stock", x.run(1), 0);
        Checks.due("both wait then", x.station(0, 6) * 100 + x.station(1, 6), 2020);
        RecyclingLine y = Checks.lineOf("materials 2;station 1 9 50 0;station 0 9 50 0;set 0 40;set 1 20;load 20;load 0 40;");
        y.run(1);
        Checks.due("one of the second and two of the first", y.run(1), 3);
        Checks.due("those of the first come first", y.bale(0, 1) * 100 + y.bale(1, 1) * 10 + y.bale(2, 1), 110);
    }

    private static void portionsOfBunkers() {
        Sentences.holds(0, "a portion of bale kilograms of the bunker");
        RecyclingLine x = Checks.lineOf("materials 3;station 1 9 50 30;set 0 200;set 1 20;load 12 41 0;");
        Checks.due("bales", x.run(1), 2);
        // 12 * 20 / 53 and 41 * 20 / 53 are 4 and 15, one more of the second; then 8 and 25 give 4 and 15, and again.
        Checks.due("the first bale", x.bale(0, 5) * 100 + x.bale(0, 6), 416);
        Checks.due("the second bale", x.bale(1, 5) * 100 + x.bale(1, 6), 416);
        Checks.masses(x, 0, 4, 9, 0);
    }

    private static void lastInTheStock() {
        Sentences.holds(0, "It comes last into the stock.");
        RecyclingLine x = Checks.lineOf("materials 1;station 0 9 50 0;set 0 60;set 1 20;buyer a 0 0 1 0 0;load 180;");
        x.run(1);
        x.sell(0, 0);
        x.run(1);
        int[] serials = {1, 2, 3, 4, 5};
        for (int i = 0; i < serials.length; i++) {
            Checks.due("serial number of bale " + i, x.bale(i, 0), serials[i]);
        }
        x.sell(4, 0);
        x.run(1);
        Checks.due("behind those that were there", x.bale(3, 0) * 10 + x.bale(4, 0), 46);
    }

    private static void serialNumbers() {
        Sentences.holds(0, "A bale has a serial number (from 0, in the order in which bales were pressed)");
        RecyclingLine x = Checks.lineOf("materials 1;station 0 9 50 0;set 0 40;set 1 20;buyer a 0 0 1 0 0;load 160;");
        x.run(1);
        Checks.due("the first ones", x.bale(0, 0) * 10 + x.bale(1, 0), 1);
        x.sell(0, 0);
        x.sell(0, 0);
        x.run(1);
        Checks.due("no number comes twice", x.bale(0, 0) * 10 + x.bale(1, 0), 23);
        x.undo();
        x.run(1);
        Checks.due("but for what was undone", x.bale(0, 0) * 10 + x.bale(1, 0), 23);
        Checks.type(x, "materials 1;station 0 9 50 0;set 1 20;load 20;");
        x.read();
        x.run(1);
        Checks.due("a new text begins with 0", x.bale(0, 0), 0);
    }

    private static void materialsOfBales() {
        Sentences.holds(0, "a material (the target of its station)");
        // 6 and 20 of 26 give 4 and 15, and one more of the target.
        RecyclingLine x = Checks.lineOf("materials 6;station 5 1 10 30;set 1 20;set 6 0;load 99 0 0 0 0 99;");
        x.run(4);
        Checks.due("material of the first", x.bale(0, 1), 5);
        Checks.due("its mass of it", x.bale(0, 10), 16);
        Checks.due("its mass of the other", x.bale(0, 5), 4);
    }

    private static void purities() {
        Sentences.holds(0, "a purity (its mass of this material * 100 / total)");
        Checks.due("all of it", baleOf(0, "").bale(0, 3), 100);
        Checks.due("all but one", baleOf(1, "").bale(0, 3), 99);
        Checks.due("the least of one parcel", baleOf(23, "").bale(0, 3), 77);
        RecyclingLine x = Checks.lineOf("materials 2;station 0 9 50 30;set 0 200;set 1 200;load 199 1;");
        x.run(1);
        Checks.due("199 of 200", x.bale(0, 3), 99);
    }

    private static int gradeWith(int limitA, int limitB, int impurity) {
        return baleOf(impurity, "set 2 " + limitA + ";set 3 " + limitB + ";").bale(0, 4);
    }

    private static void grades() {
        Sentences.holds(0, "and a grade: 0 (A) if the purity is at least limit A, otherwise 1 (B) if it is at least"
            + " limit B, otherwise 2 (C)");
        Checks.due("A: at least", gradeWith(90, 80, 10), 0);
        Checks.due("A: not", gradeWith(91, 80, 10), 1);
        Checks.due("B: at least", gradeWith(91, 90, 10), 1);
        Checks.due("B: not", gradeWith(92, 91, 10), 2);
        Checks.due("A comes first", gradeWith(90, 100, 10), 0);
        Checks.due("a limit B above A", gradeWith(91, 100, 10), 2);
        Checks.due("all are A with 0", gradeWith(0, 0, 23), 0);
        Checks.due("100 of 100", gradeWith(100, 100, 0), 0);
        Checks.due("99 of 100", gradeWith(100, 100, 1), 2);
        Checks.due("first limits: 95", baleOf(5, "").bale(0, 4), 0);
        Checks.due("first limits: 94", baleOf(6, "").bale(0, 4), 1);
        Checks.due("first limits: 85", baleOf(15, "").bale(0, 4), 1);
        Checks.due("first limits: 84", baleOf(16, "").bale(0, 4), 2);
    }

    private static void gradesAsPressed() {
        Sentences.holds(0, "purity and grade are as when it was pressed");
        RecyclingLine x = baleOf(10, "set 2 90;set 3 80;load 90 10;load 90 10;");
        x.set(2, 91);
        x.run(1);
        x.set(3, 91);
        x.run(1);
        x.set(2, 0);
        for (int bale = 0; bale < 3; bale++) {
            Checks.due("grade of bale " + bale, x.bale(bale, 4), bale);
            Checks.due("purity of bale " + bale, x.bale(bale, 3), 90);
        }
    }

    private static void buyersInTheirOrder() {
        Sentences.holds(0, "There are at most 4 buyers, numbered from 0 in the order of the text.");
        String line = "materials 1;station 0 0 1 0;";
        String[] buyers = {"buyer d 0 0 11 0 0;", "buyer c 0 0 12 0 0;", "buyer a 0 0 13 0 0;", "buyer b 0 0 14 0 0;"};
        String text = line;
        for (int count = 0; count <= 4; count++) {
            RecyclingLine x = Checks.lineOf(text);
            int none = count;
            Checks.due("buyers", x.line(2), count);
            for (int i = 0; i < count; i++) {
                Checks.due("buyer " + i, x.buyer(i, 2), 11 + i);
            }
            Checks.dueThrow("one more", IndexOutOfBoundsException.class, () -> x.buyer(none, 0));
            text = text + (count < 4 ? buyers[count] : "");
        }
        Checks.refuses(text + "^buyer e 0 0 15 0 0;", 5);
    }

    private static void rangesOfBuyers() {
        Sentences.holds(0, "A buyer has a material, a worst grade (0 to 2) that it takes, a price (1 to 9999), a"
            + " tolerance and a limit (0 to 100 each).");
        String text = "materials 3;station 0 0 1 0;buyer a ";
        int[][] due = {{0, 0, 1, 0, 0, 0}, {2, 2, 9999, 100, 100, 0}};
        RecyclingLine x = Checks.lineOf(text + "0 0 1 0 0;buyer b 2 2 9999 100 100;");
        for (int buyer = 0; buyer < 2; buyer++) {
            for (int what = 0; what < 6; what++) {
                Checks.due("buyer(" + buyer + ", " + what + ")", x.buyer(buyer, what), due[buyer][what]);
            }
        }
        Checks.refuses(text + "^3 0 1 0 0;", 2);
        Checks.refuses(text + "0 ^3 1 0 0;", 2);
        Checks.refuses(text + "0 0 ^0 0 0;", 2);
        Checks.refuses(text + "0 0 1 ^101 0;", 2);
        Checks.refuses(text + "0 0 1 0 ^101;", 2);
    }

    private static void takenBales() {
        Sentences.holds(0, "It takes bales of its material whose grade is not greater than its worst grade.");
        String[] limits = {"set 2 90;set 3 80;", "set 2 91;set 3 90;", "set 2 92;set 3 91;"};
        for (int grade = 0; grade < 3; grade++) {
            RecyclingLine x = baleOf(10, limits[grade] + "buyer a 0 0 100 99 99;buyer b 0 1 100 99 99;buyer c 0 2 100 99 99;"
                + "buyer d 1 2 100 99 99;");
            int[] worth = {100, 70, 40};
            for (int worst = 0; worst < 3; worst++) {
                int buyer = worst;
                if (worst < grade) {
                    Checks.dueThrow("grade " + grade + " for " + worst, ARGUMENT, () -> x.sell(0, buyer));
                } else {
                    Checks.due("grade " + grade + " for " + worst, x.sell(0, buyer), worth[grade]);
                    x.undo();
                }
            }
            Checks.dueThrow("another material", ARGUMENT, () -> x.sell(0, 3));
        }
    }

    private static void limits() {
        Sentences.holds(0, "if I is greater than its limit, the bale is sent back: it pays nothing");
        int[][] cases = {{10, 9, -1}, {10, 10, 100}, {10, 11, 100}, {0, 0, 100}, {1, 0, -1}, {23, 22, -1}, {23, 100, 100}};
        for (int[] one : cases) {
            RecyclingLine x = baleOf(one[0], "set 2 0;buyer a 0 2 100 100 " + one[1] + ";");
            String what = "an impurity of " + one[0] + " with " + one[1];
            Checks.due(what, x.sell(0, 0), one[2]);
            Checks.due("paid for " + what, x.buyer(0, 5), Math.max(one[2], 0));
            Checks.due("sent back: " + what, x.line(9), one[2] < 0 ? 1 : 0);
        }
    }

    private static void worths() {
        Sentences.holds(0, "Otherwise the worth is the price for grade 0, price * 70 / 100 for grade 1, price * 40 /"
            + " 100 for grade 2");
        String[] limits = {"set 2 90;set 3 80;", "set 2 91;set 3 90;", "set 2 92;set 3 91;"};
        int[][] cases = {{1, 1, 0, 0}, {2, 2, 1, 0}, {3, 3, 2, 1}, {99, 99, 69, 39}, {9999, 9999, 6999, 3999}};
        for (int[] one : cases) {
            for (int grade = 0; grade < 3; grade++) {
                RecyclingLine x = baleOf(10, limits[grade] + "buyer a 0 2 " + one[0] + " 10 10;");
                Checks.due("worth of grade " + grade + " for " + one[0], x.sell(0, 0), one[1 + grade]);
            }
        }
    }

    private static void tolerances() {
        Sentences.holds(0, "if I is greater than its tolerance, it claims");
        int[][] cases = {{10, 9, 98, 1}, {10, 10, 100, 0}, {10, 11, 100, 0}, {10, 0, 80, 1}, {0, 0, 100, 0}, {1, 0, 98, 1},
            {23, 100, 100, 0}};
        for (int[] one : cases) {
            RecyclingLine x = baleOf(one[0], "set 2 0;buyer a 0 2 100 " + one[1] + " 100;");
            String what = "an impurity of " + one[0] + " with " + one[1];
            Checks.due(what, x.sell(0, 0), one[2]);
            Checks.due("claims: " + what, x.line(10), one[3]);
        }
    }

    private static void claims() {
        Sentences.holds(0, "it claims price * (I - tolerance) * claim / 100");
        // Price, tolerance, claim, and what is paid for an impurity of 10.
        int[][] cases = {{100, 0, 0, 100}, {100, 9, 0, 100}, {100, 9, 1, 99}, {100, 9, 20, 80}, {99, 9, 1, 99}, {101, 9, 1, 100},
            {33, 8, 3, 32}, {50, 7, 1, 49}, {9999, 7, 20, 4000}, {9999, 9, 19, 8100}};
        for (int[] one : cases) {
            RecyclingLine x = baleOf(10, "set 2 0;set 7 " + one[2] + ";buyer a 0 2 " + one[0] + " " + one[1] + " 10;");
            Checks.due("paid of " + one[0] + " with " + one[1] + " and " + one[2], x.sell(0, 0), one[3]);
        }
        // Of the price, whatever the grade.
        RecyclingLine x = baleOf(10, "set 2 91;set 3 91;buyer a 0 2 1000 9 10;");
        Checks.due("400 less 1000 * 1 * 2 / 100", x.sell(0, 0), 380);
    }

    private static void claimsUpToTheWorth() {
        Sentences.holds(0, "but at most the worth; it pays the worth less the claim");
        int[][] cases = {{0, 4, 0}, {0, 5, 0}, {1, 4, 40}, {0, 3, 100}, {0, 20, 0}, {8, 20, 0}, {9, 20, 200}};
        for (int[] one : cases) {
            RecyclingLine x = baleOf(10, "set 2 91;set 3 91;set 7 " + one[1] + ";buyer a 0 2 1000 " + one[0] + " 10;");
            Checks.due("400 with " + one[0] + " and " + one[1], x.sell(0, 0), one[2]);
            Checks.due("sold", x.line(8), 1);
            Checks.due("paid so far", x.buyer(0, 5), one[2]);
        }
        RecyclingLine most = baleOf(23, "set 2 0;set 7 20;buyer a 0 2 9999 0 100;");
        Checks.due("the greatest claim of all", most.sell(0, 0), 0);
    }
}
