/** Promises 2 to 6: the input buffer, reading texts with their errors, finding buyers. */
public final class TextsTest {
    private static final String LINE = "materials 2;station 0 1 10 0;";

    public static void main(String[] args) {
        buffer();
        goodTexts();
        readReplacesEverything();
        misplaced();
        outOfRange();
        namesTaken();
        tooMany();
        refusedTextsChangeNothing();
        finding();
        Checks.finish();
    }

    private static void buffer() {
        RecyclingLine x = new RecyclingLine();
        Checks.due("empty buffer", x.bufferLength(), 0);
        Checks.due("truncate(0) of an empty buffer", x.truncate(0), true);
        Checks.due("truncate(1) of an empty buffer", x.truncate(1), false);
        for (int length = 20; length <= 700; length += 20) {
            Checks.due("append", x.append(0, 0, 0, 0, 0), length);
        }
        Checks.due("append to 700 bytes", x.append(1, 2, 3, 4, 5), -1);
        Checks.due("length after a refused append", x.bufferLength(), 700);
        Checks.due("truncate(-1)", x.truncate(-1), false);
        Checks.due("truncate(701)", x.truncate(701), false);
        Checks.due("truncate(MIN)", x.truncate(Integer.MIN_VALUE), false);
        Checks.due("truncate(700)", x.truncate(700), true);
        Checks.due("truncate(681)", x.truncate(681), true);
        Checks.due("append to 681 bytes", x.append(0, 0, 0, 0, 0), -1);
        Checks.due("truncate(680)", x.truncate(680), true);
        Checks.due("append to 680 bytes", x.append(0, 0, 0, 0, 0), 700);
        Checks.due("truncate(3)", x.truncate(3), true);
        Checks.due("length", x.bufferLength(), 3);
        Checks.due("append to 3 bytes", x.append(0, 0, 0, 0, 0), 23);

        // The bytes of each argument come most significant first, and the arguments in their order.
        String text = "materials 3 ; \n set 0 7 ;station 2 9 50 30;";
        Checks.type(x, text);
        Checks.due("a text over three appends", x.read(), 1);
        Checks.due("buffer after read", x.bufferLength(), 0);
        Checks.due("feed", x.setting(0), 7);
        Checks.type(x, "materials");
        Checks.due("a refused text", x.read(), -(8 * 9 + 1));
        Checks.due("buffer after a refused text", x.bufferLength(), 0);

        // What was cut off is not read, although the bytes may still be there.
        Checks.type(x, "materials 12");
        x.truncate(11);
        Checks.due("a number that was cut", x.read(), -(8 * 11 + 1));
        Checks.type(x, "materials 1;stations");
        x.truncate(19);
        Checks.due("a word that was cut", x.read(), -(8 * 19 + 1));
        Checks.type(x, "materials 1; ;");
        x.truncate(13);
        Checks.due("a semicolon that was cut", x.read(), -(8 * 13 + 1));
    }

    private static void goodTexts() {
        Checks.reads("materials 1;station 0 0 1 0;", 1);
        Checks.reads(" \n materials\n6\n;\nstation 5 9 50 30;  \n ", 1);
        Checks.reads("materials0001;station0000 0 0001 0;load0999;", 1);
        Checks.reads("materials 1;load 1;set 1 500;buyer abcdef 0 2 9999 100 100;station 0 0 1 0;", 1);
        Checks.reads("materials 2;" + "station 1 0 1 0;".repeat(8), 8);
        Checks.reads(LINE + "buyer a 0 0 1 0 0;buyer b 0 0 1 0 0;buyer aa 0 0 1 0 0;buyer mat 1 2 9999 100 100;", 1);
        Checks.reads(LINE + "buyer sets 0 0 1 0 0;buyer se 0 0 1 0 0;buyer loads 0 0 1 0 0;buyer statio 0 0 1 0 0;", 1);
        Checks.reads(LINE + "load 1;".repeat(30), 1);
        Checks.reads(LINE + "load 1;".repeat(29) + "load 0;load 0 0;load 0 1;", 1);
        String longest = LINE + " ".repeat(700 - LINE.length());
        Checks.reads(longest, 1);
        Checks.refuses(longest.substring(0, 696) + "load^", 1);
        Checks.refuses(longest.substring(0, 694) + "load 9^", 1);
        Checks.refuses(longest.substring(0, 695) + "^loads", 1);
        RecyclingLine empty = Checks.lineOf(LINE + "load 0;load 0 0;");
        Checks.due("loads of nothing", empty.line(4), 0);

        RecyclingLine x = Checks.lineOf("materials 4;station 3 4 25 8;station 1 9 50 30;set 4 30;set 4 40;set 7 20;"
            + "load 1 2 3;load 0;load 0 0 0 9;load 999 999 999 999;load 5;buyer abc 2 1 77 8 9;");
        Checks.due("materials", x.line(0), 4);
        Checks.due("stations", x.line(1), 2);
        Checks.due("buyers", x.line(2), 1);
        Checks.due("parcels", x.line(4), 4);
        Checks.due("the later of two values", x.setting(4), 40);
        Checks.due("claim", x.setting(7), 20);
        int[][] parcels = {{1, 2, 3, 0}, {0, 0, 0, 9}, {999, 999, 999, 999}, {5, 0, 0, 0}, {0, 0, 0, 0}};
        for (int i = 0; i < parcels.length; i++) {
            for (int m = 0; m < 4; m++) {
                Checks.due("mass of parcel " + i, x.mass(16 + i, m), parcels[i][m]);
            }
        }
        Checks.due("loaded by the text", x.balance(0), 6L + 9 + 4 * 999 + 5);
        int[] first = {3, 4, 25, 8, 0, 100, 0, 0, -1, 0, 0};
        for (int what = 0; what <= 10; what++) {
            Checks.due("station(0, " + what + ")", x.station(0, what), first[what]);
        }
        int[] buyer = {2, 1, 77, 8, 9, 0};
        for (int what = 0; what <= 5; what++) {
            Checks.due("buyer(0, " + what + ")", x.buyer(0, what), buyer[what]);
        }
    }

    private static void readReplacesEverything() {
        String text = "materials 3;station 2 3 10 0;station 0 1 10 0;set 1 20;load 60 4;load 9 0 60;buyer b 1 0 5 0 0;";
        RecyclingLine other = Checks.lineOf(text);
        String fresh = Checks.everything(other);
        other.run(5);
        String later = Checks.everything(other);
        Checks.due("it has bales", other.line(6) > 1, true);
        // More than once, for an object may well keep two lines that it uses in turn.
        for (int reads = 1; reads <= 3; reads++) {
            RecyclingLine x = usedLine();
            for (int i = 1; i < reads; i++) {
                Checks.type(x, text);
                x.read();
                x.run(5);
            }
            Checks.type(x, text);
            Checks.due("read", x.read(), 2);
            Checks.due("a line used before is as a new one", Checks.everything(x), fresh);
            Checks.due("nothing can be undone", x.undo(), -1);
            Checks.finds(x, "a", -1);
            x.run(5);
            Checks.due("and runs as a new one", Checks.everything(x), later);
        }
    }

    private static RecyclingLine usedLine() {
        RecyclingLine x = Checks.lineOf("materials 2;station 0 9 50 30;station 1 0 50 0;set 1 20;set 0 200;set 4 0;"
            + "buyer a 0 2 100 99 100;load 90 70;load 30 9;load 50 150;load 150 50;");
        x.set(5, 0);
        x.run(5);
        x.staff(0, 1);
        x.load(0, 300);
        x.run(2);
        Checks.due("it has residue", x.balance(6) > 0, true);
        Checks.due("and parcels on the belt", x.line(5), 2);
        x.sell(0, 0);
        x.clean(0);
        return x;
    }

    /** Kind 1. The sign ^ stands ahead of the token that is reported. */
    private static void misplaced() {
        Checks.refuses("^", 1);
        Checks.refuses("   ^", 1);
        Checks.refuses("^material 1;", 1);
        Checks.refuses("^materialsx 1;", 1);
        Checks.refuses("^aaterials 1;", 1);
        Checks.refuses(LINE + "^soad 1;", 1);
        Checks.refuses(LINE + "^loab 1;", 1);
        Checks.refuses("^station 0 0 1 0;", 1);
        Checks.refuses("^; materials 1;", 1);
        Checks.refuses("^1 materials", 1);
        Checks.refuses("^Materials 1;", 1);
        Checks.refuses("\n^\tmaterials 1;", 1);
        Checks.refuses("materials^", 1);
        Checks.refuses("materials  ^", 1);
        Checks.refuses("materials ^;", 1);
        Checks.refuses("materials ^00001;", 1);
        Checks.refuses("materials ^-1;", 1);
        Checks.refuses("materials ^one;", 1);
        Checks.refuses("materials 1^", 1);
        Checks.refuses("materials 1 ^2;", 1);
        Checks.refuses("materials 1 ^station 0 0 1 0;", 1);
        Checks.refuses("materials 1;^", 1);
        Checks.refuses("materials 1; \n ^", 1);
        Checks.refuses("materials 1;^;", 1);
        Checks.refuses("materials 1;^materials 1;", 1);
        Checks.refuses("materials 1;^stations 0 0 1 0;", 1);
        Checks.refuses("materials 1;^stat ion 0 0 1 0;", 1);
        Checks.refuses("materials 1;set 0 1;load 4;^", 1);
        Checks.refuses(LINE + "^,", 1);
        Checks.refuses(LINE + "^\u00e9", 1);
        Checks.refuses(LINE + "^\u0000", 1);
        Checks.refuses(LINE + "set 0 1^\u00ff;", 1);
        Checks.refuses(LINE + "^{", 1);
        Checks.refuses(LINE + "^`", 1);
        Checks.refuses(LINE + "load 1^/;", 1);
        Checks.refuses(LINE + "load 1^:;", 1);
        Checks.refuses(LINE + "^;", 1);
        Checks.refuses(LINE + "^0;", 1);
        Checks.refuses(LINE + "^sets 0 1;", 1);
        Checks.refuses(LINE + "^se 0 1;", 1);
        Checks.refuses(LINE + "station ^;", 1);
        Checks.refuses(LINE + "station 0 0 1^;", 1);
        Checks.refuses(LINE + "station 0 0 1 0^", 1);
        Checks.refuses(LINE + "station 0 0 1 0 ^0;", 1);
        Checks.refuses(LINE + "station 0 0 1 0 ^station 0 0 1 0;", 1);
        Checks.refuses(LINE + "station ^99999 0 1 0;", 1);
        Checks.refuses(LINE + "set ^;", 1);
        Checks.refuses(LINE + "set 0^;", 1);
        Checks.refuses(LINE + "set 0 50 ^1;", 1);
        Checks.refuses(LINE + "set ^feed 1;", 1);
        Checks.refuses(LINE + "load^;", 1);
        Checks.refuses(LINE + "load 1 2^", 1);
        Checks.refuses(LINE + "load 1 2 ^3;", 1);
        Checks.refuses(LINE + "load 1 2 ^1000;", 1);
        Checks.refuses(LINE + "load 1 ^12345;", 1);
        Checks.refuses(LINE + "load 1 ^a;", 1);
        Checks.refuses(LINE + "buyer ^;", 1);
        Checks.refuses(LINE + "buyer ^1 0 0 1 0 0;", 1);
        Checks.refuses(LINE + "buyer ^abcdefg 0 0 1 0 0;", 1);
        Checks.refuses(LINE + "buyer ^set 0 0 1 0 0;", 1);
        Checks.refuses(LINE + "buyer ^load 0 0 1 0 0;", 1);
        Checks.refuses(LINE + "buyer ^buyer 0 0 1 0 0;", 1);
        Checks.refuses(LINE + "buyer ^station 0 0 1 0 0;", 1);
        Checks.refuses(LINE + "buyer ^materials 0 0 1 0 0;", 1);
        Checks.refuses(LINE + "buyer ^A 0 0 1 0 0;", 1);
        Checks.refuses(LINE + "buyer a ^b 0 0 1 0 0;", 1);
        Checks.refuses(LINE + "buyer a 0 0 1 0^;", 1);
        Checks.refuses(LINE + "buyer a 0 0 1 0 0 ^0;", 1);
        Checks.refuses(LINE + "buyer a 0 0 1 0 0^", 1);
        Checks.refuses("materials 1;" + "station 0 0 1 0;".repeat(7) + "station 0 0 1 0 ^station", 1);
    }

    private static void outOfRange() {
        Checks.refuses("materials ^0;", 2);
        Checks.refuses("materials ^7;", 2);
        Checks.refuses("materials ^0000 x", 2);
        Checks.refuses("materials ^9999", 2);
        Checks.refuses("materials 3;station ^3 0 1 0;", 2);
        Checks.refuses(LINE + "station 0 ^10 1 0;", 2);
        Checks.refuses(LINE + "station 0 0 ^0 0;", 2);
        Checks.refuses(LINE + "station 0 0 ^51 0;", 2);
        Checks.refuses(LINE + "station 0 0 1 ^31;", 2);
        Checks.refuses(LINE + "set ^8 0;", 2);
        int[][] ranges = {{1, 200}, {20, 500}, {0, 100}, {0, 100}, {0, 100}, {0, 5}, {0, 5}, {0, 20}};
        for (int what = 0; what < 8; what++) {
            String set = LINE + "set " + what + " ";
            Checks.reads(set + ranges[what][0] + ";", 1);
            Checks.reads(set + ranges[what][1] + ";", 1);
            Checks.refuses(set + "^" + (ranges[what][1] + 1) + ";", 2);
            if (ranges[what][0] > 0) {
                Checks.refuses(set + "^" + (ranges[what][0] - 1) + ";", 2);
            }
        }
        Checks.refuses(LINE + "load ^1000;", 2);
        Checks.refuses(LINE + "load 999 ^1000;", 2);
        Checks.refuses(LINE + "load ^1000 1 1", 2);
        Checks.refuses(LINE + "buyer a ^2 0 1 0 0;", 2);
        Checks.refuses(LINE + "buyer a 0 ^3 1 0 0;", 2);
        Checks.refuses(LINE + "buyer a 0 0 ^0 0 0;", 2);
        Checks.refuses(LINE + "buyer a 0 0 1 ^101 0;", 2);
        Checks.refuses(LINE + "buyer a 0 0 1 0 ^101;", 2);
        // The first error is the one that counts, whatever comes behind it.
        Checks.refuses(LINE + "set ^9 9 9;set 0 0;?", 2);
        Checks.refuses(LINE + "^?set 0 0;", 1);
    }

    private static void namesTaken() {
        Checks.refuses(LINE + "buyer a 0 0 1 0 0;buyer ^a 0 0 1 0 0;", 3);
        Checks.refuses(LINE + "buyer ab 0 0 1 0 0;buyer b 0 0 1 0 0;buyer ^ab", 3);
        Checks.refuses(LINE + "buyer zzzzzz 0 0 1 0 0;buyer ^zzzzzz 9 9 9 9 9;", 3);
        Checks.refuses(LINE + "buyer a 0 0 1 0 0;buyer ^aaaaaaa 0 0 1 0 0;", 1);
    }

    private static void tooMany() {
        String eight = "materials 1;" + "station 0 0 1 0;".repeat(8);
        Checks.refuses(eight + "^station 0 0 1 0;", 5);
        Checks.refuses(eight + "^station", 5);
        Checks.refuses(eight + "^stations", 1);
        String four = LINE + "buyer a 0 0 1 0 0;buyer b 0 0 1 0 0;buyer c 0 0 1 0 0;buyer d 0 0 1 0 0;";
        Checks.refuses(four + "^buyer e 0 0 1 0 0;", 5);
        Checks.refuses(four + "^buyer a 0 0 1 0 0;", 5);
        String full = LINE + "load 1;".repeat(30);
        Checks.refuses(full + "^load 1;", 5);
        Checks.refuses(full + "^load 0;", 5);
        Checks.refuses(full + "^load ?", 5);
    }

    private static void refusedTextsChangeNothing() {
        RecyclingLine x = Checks.lineOf("materials 2;station 0 9 50 30;set 1 20;buyer a 0 2 9 0 9;load 90 70;load 9 9;");
        x.run(1);
        x.set(0, 7);
        String before = Checks.everything(x);
        Checks.type(x, "materials 5;station 4 1 1 1;load 9 9 9 9 9;set 0 9;buyer b 0 0 1 0 0;load 9 9 9 9 9 9;");
        Checks.due("a refused text", x.read() < 0, true);
        Checks.due("everything after a refused text", Checks.everything(x), before);
        Checks.due("a refused text leaves what can be undone", x.undo(), 1);
        Checks.due("and again", x.undo(), 0);
        Checks.due("feed is back", x.setting(0), 50);
    }

    private static void finding() {
        RecyclingLine x = Checks.lineOf(LINE + "buyer ab 0 0 1 0 0;buyer b 0 0 1 0 0;buyer zzzzzz 0 0 1 0 0;");
        Checks.finds(x, "ab", 0);
        Checks.finds(x, "b", 1);
        Checks.finds(x, "zzzzzz", 2);
        String[] none = {"", "a", "ba", "abc", "bb", " ab", "ab ", "ab;", "AB", "zzzzzzz", "zzzzz", "b\u0000", "set",
            "\u00e2", "`", "a`", "bB", "{", "c".repeat(700)};
        for (String name : none) {
            Checks.finds(x, name, -1);
        }
        RecyclingLine fresh = new RecyclingLine();
        Checks.finds(fresh, "", -1);
        Checks.finds(fresh, "a", -1);
    }
}
