import static java.lang.String.join;

/** The boundaries of the texts: the grammar, the ranges of its numbers, and the errors. */
final class TextBoundaries {
    private static final String LINE = "materials 2;station 0 1 10 0;";
    private static final String[] KEYWORDS = {"materials", "station", "set", "load", "buyer"};
    private static final int[][] RANGES = {{1, 200}, {20, 500}, {0, 100}, {0, 100}, {0, 100}, {0, 5}, {0, 5}, {0, 20}};

    private TextBoundaries() {
    }

    static void all() {
        Checks.each(TextBoundaries::longestText, TextBoundaries::textsBeginWithMaterials,
            TextBoundaries::statementsOfEachKind, TextBoundaries::numbersInTheirOrder, TextBoundaries::numbersOfALoad,
            TextBoundaries::words, TextBoundaries::names, TextBoundaries::numbers, TextBoundaries::blanks,
            TextBoundaries::noOtherBlanks, TextBoundaries::differentNames, TextBoundaries::laterSettings,
            TextBoundaries::loadsOfNothing, TextBoundaries::leastOffset, TextBoundaries::endOfTheText,
            TextBoundaries::leastKind, TextBoundaries::invalidTokens, TextBoundaries::tokensNotAllowed,
            TextBoundaries::furtherNumbers, TextBoundaries::noStation, TextBoundaries::numbersOutOfRange,
            TextBoundaries::numbersThatNameNothing, TextBoundaries::namesTaken, TextBoundaries::ninthStation,
            TextBoundaries::fifthBuyer, TextBoundaries::loadIntoAFullHopper);
    }

    private static void longestText() {
        Sentences.holds(0, "A text of at most 700 bytes describes a line");
        String statement = "set 0 9;";
        String text = LINE + " ".repeat(700 - LINE.length() - statement.length()) + statement;
        Checks.due("its length", text.length(), 700);
        Checks.due("the last statement of 700 bytes", Checks.lineOf(text).setting(0), 9);
        Checks.refuses(LINE + " ".repeat(700 - LINE.length() - 7) + "set 0 9^", 1);
    }

    private static void textsBeginWithMaterials() {
        Sentences.holds(0, "text      = \"materials\" NUMBER \";\" { statement \";\" }");
        Checks.reads("materials 1;station 0 0 1 0;", 1);
        Checks.refuses("materials 1;^", 1);
        Checks.refuses("^station 0 0 1 0;", 1);
        Checks.refuses("^set 0 1;materials 1;station 0 0 1 0;", 1);
        Checks.refuses("^1;station 0 0 1 0;", 1);
        Checks.refuses("^;materials 1;station 0 0 1 0;", 1);
        Checks.refuses("materials ^;station 0 0 1 0;", 1);
        Checks.refuses("materials 1 ^1;station 0 0 1 0;", 1);
        Checks.refuses("materials 1 ^station 0 0 1 0;", 1);
        Checks.refuses("materials 1;^;station 0 0 1 0;", 1);
        Checks.refuses("materials 1;^materials 1;station 0 0 1 0;", 1);
        Checks.refuses(LINE + "^materials 2;", 1);
        Checks.refuses(LINE + "^;", 1);
        Checks.refuses(LINE + "set 0 1^", 1);
        Checks.refuses(LINE + "set 0 1 ^set 0 1;", 1);
    }

    private static void statementsOfEachKind() {
        Sentences.holds(0, "statement = \"station\" NUMBER NUMBER NUMBER NUMBER | \"set\" NUMBER NUMBER | \"load\""
            + " NUMBER { NUMBER } | \"buyer\" NAME NUMBER NUMBER NUMBER NUMBER NUMBER");
        String[] statements = {"station 0 0 1 0", "set 0 1", "buyer a 0 0 1 0 0"};
        for (String statement : statements) {
            Checks.reads(LINE + statement + ";", statement.startsWith("station") ? 2 : 1);
            Checks.refuses(LINE + statement + " ^0;", 1);
            Checks.refuses(LINE + statement + " ^a;", 1);
            // One token less at a time, from the last number to the keyword.
            String less = statement;
            while (less.contains(" ")) {
                less = less.substring(0, less.lastIndexOf(' '));
                Checks.refuses(LINE + less + "^;", 1);
                Checks.refuses(LINE + less + " ^set;", 1);
            }
        }
        Checks.refuses(LINE + "load^;", 1);
        Checks.reads(LINE + "load 0;", 1);
        Checks.reads(LINE + "load 0 0;", 1);
        Checks.refuses(LINE + "load ^a;", 1);
        Checks.refuses(LINE + "load 0 ^a;", 1);
        Checks.refuses(LINE + "buyer ^0 0 0 1 0 0;", 1);
    }

    private static void numbersInTheirOrder() {
        Sentences.holds(0, "The numbers of station are target, pickers, rate and error; those of set a setting and"
            + " its value");
        RecyclingLine x = Checks.lineOf("materials 6;station 5 9 50 30;station 1 2 3 4;set 6 5;");
        Checks.properties(x, 0, 5, 9, 50, 30);
        Checks.properties(x, 1, 1, 2, 3, 4);
        Checks.due("setting 6", x.setting(6), 5);
        Checks.due("setting 5", x.setting(5), 2);
        Sentences.holds(0, "those of buyer the material, the worst grade, the price, the tolerance and the limit");
        RecyclingLine y = Checks.lineOf(LINE + "buyer a 1 2 9999 99 100;buyer b 0 1 2 3 4;");
        int[][] due = {{1, 2, 9999, 99, 100, 0}, {0, 1, 2, 3, 4, 0}};
        for (int buyer = 0; buyer < 2; buyer++) {
            for (int what = 0; what < 6; what++) {
                Checks.due("buyer(" + buyer + ", " + what + ")", y.buyer(buyer, what), due[buyer][what]);
            }
        }
    }

    private static void numbersOfALoad() {
        Sentences.holds(0, "those of load the masses of the materials 0, 1 and so on (at most as many as there are"
            + " materials, 0 to 999 each, the others are 0)");
        for (int materials = 1; materials <= 6; materials++) {
            StringBuilder text = new StringBuilder("materials " + materials + ";station 0 0 1 0;");
            for (int count = 1; count <= materials; count++) {
                text.append("load").append(" 999".repeat(count - 1)).append(" ").append(count).append(";");
            }
            RecyclingLine x = Checks.lineOf(text.toString());
            for (int count = 1; count <= materials; count++) {
                for (int m = 0; m < materials; m++) {
                    int due = m < count - 1 ? 999 : m == count - 1 ? count : 0;
                    Checks.due("material " + m + " of a load of " + count, x.mass(15 + count, m), due);
                }
            }
            Checks.refuses(text + "load" + " 0".repeat(materials) + " ^0;", 1);
        }
        RecyclingLine zero = Checks.lineOf("materials 3;station 0 0 1 0;load 0 0 1;load 0 999;");
        Checks.masses(zero, 16, 0, 0, 1);
        Checks.masses(zero, 17, 0, 999, 0);
        Checks.refuses(LINE + "load ^1000;", 2);
        Checks.refuses(LINE + "load 0 ^1000;", 2);
    }

    private static void words() {
        Sentences.holds(0, "A word is a maximal run of lowercase letters");
        Checks.reads("materials2;station0 0 1 0;set0 9;load1 1;buyer a0 0 1 0 0;", 1);
        Checks.refuses(LINE + "^setload 1;", 1);
        Checks.refuses(LINE + "^setx 0 1;", 1);
        Checks.refuses(LINE + "^xset 0 1;", 1);
        Checks.refuses(LINE + "^s et 0 1;", 1);
        Checks.refuses("^xaterials 1;", 1);
        Checks.refuses("^materialx 1;", 1);
        for (String word : new String[] {"xtation", "statiox", "xet", "sex", "sxt", "xoad", "loax", "xuyer", "buyex"}) {
            Checks.refuses(LINE + "^" + word + " 0 0 1 0;", 1);
        }
        Checks.refuses(LINE + "^Set 0 1;", 1);
        Checks.refuses(LINE + "^sEt 0 1;", 1);
        Checks.refuses(LINE + "^buyera 0 0 1 0 0;", 1);
        Checks.refuses(LINE + "buyer a^B 0 0 1 0 0;", 1);
        // The letters end with a and z.
        Checks.reads(LINE + "buyer az 0 0 1 0 0;", 1);
        Checks.refuses(LINE + "buyer az^{ 0 0 1 0 0;", 1);
        Checks.refuses(LINE + "buyer az^` 0 0 1 0 0;", 1);
    }

    private static void names() {
        Sentences.holds(0, "a NAME is a word of 1 to 6 letters other than the words in quotation marks in this"
            + " grammar");
        String rest = " 0 0 1 0 0;";
        String[] good = {"a", "z", "abcdef", "zzzzzz", "se", "sett", "loa", "loads", "buye", "buyers", "statio", "materi",
            "tes", "name", "number", "text"};
        for (String name : good) {
            Checks.finds(Checks.lineOf(LINE + "buyer " + name + rest), name, 0);
        }
        Checks.refuses(LINE + "buyer ^" + rest.strip(), 1);
        Checks.refuses(LINE + "buyer ^abcdefg" + rest, 1);
        Checks.refuses(LINE + "buyer ^" + "a".repeat(600) + rest, 1);
        for (String word : KEYWORDS) {
            Checks.refuses(LINE + "buyer ^" + word + rest, 1);
        }
    }

    private static void numbers() {
        Sentences.holds(0, "A NUMBER is a maximal run of digits and has 1 to 4 digits.");
        Checks.due("1 digit", Checks.lineOf(LINE + "set 0 9;").setting(0), 9);
        Checks.due("4 digits", Checks.lineOf(LINE + "set 0 0010;").setting(0), 10);
        Checks.due("4 digits of a price", Checks.lineOf(LINE + "buyer a 0 0 9999 0 0;").buyer(0, 2), 9999);
        Checks.refuses(LINE + "set 0 ^00010;", 1);
        Checks.refuses(LINE + "set ^00000 1;", 1);
        Checks.refuses("materials ^00001;station 0 0 1 0;", 1);
        Checks.refuses(LINE + "buyer a 0 0 ^10000 0 0;", 1);
        // What would be the right number if only 32 or 64 bits of it were kept.
        Checks.refuses(LINE + "set 0 ^4294967297;", 1);
        Checks.refuses(LINE + "set 0 ^18446744073709551617;", 1);
        Checks.refuses(LINE + "set 0 ^" + "0".repeat(650) + "1;", 1);
        // One run is one number.
        Checks.refuses(LINE + "set 01^;", 1);
        RecyclingLine x = Checks.lineOf(LINE + "load 12;load 1 2;");
        Checks.masses(x, 16, 12, 0);
        Checks.masses(x, 17, 1, 2);
        Checks.refuses(LINE + "set 0 1^-;", 1);
        Checks.refuses(LINE + "set 0 ^-1;", 1);
        Checks.refuses(LINE + "set 0 ^+1;", 1);
        Checks.refuses(LINE + "set 0 1^.0;", 1);
        Checks.refuses(LINE + "set 0 1^/;", 1);
        Checks.refuses(LINE + "set 0 1^:;", 1);
    }

    private static void blanks() {
        Sentences.holds(0, "Spaces (32) and newlines (10) may stand before the first token, between any two tokens"
            + " and behind the last one.");
        String[] tokens = {"materials", "2", ";", "buyer", "a", "1", "2", "30", "4", "5", ";", "load", "9", "8", ";", "station",
            "1", "3", "7", "6", ";", "set", "0", "44", ";"};
        String due = Checks.everything(Checks.lineOf(join(" ", tokens)));
        String[] between = {" ", "\n", "  ", "\n\n", " \n", "\n ", " \n \n "};
        for (String blank : between) {
            for (int ends = 0; ends < 4; ends++) {
                String text = (ends % 2 == 0 ? "" : blank) + join(blank, tokens) + (ends < 2 ? "" : blank);
                Checks.due("blanks in " + text, Checks.everything(Checks.lineOf(text)), due);
            }
        }
        // None at all where the tokens are apart without.
        String bare = "materials2;buyer a1 2 30 4 5;load9 8;station1 3 7 6;set0 44;";
        Checks.due("no blanks", Checks.everything(Checks.lineOf(bare)), due);
    }

    private static void noOtherBlanks() {
        Sentences.holds(0, "Spaces (32) and newlines (10) may stand");
        for (int sign = 0; sign < 256; sign++) {
            boolean isBlank = sign == ' ' || sign == '\n';
            boolean isDigit = sign >= '0' && sign <= '9';
            boolean isLetter = sign >= 'a' && sign <= 'z';
            String behind = (char) sign + "1;station 0 0 1 0;";
            if (isBlank || sign == '0') {
                Checks.reads("materials" + behind, 1);
            } else if (isDigit) {
                Checks.refuses("materials^" + behind, 2);
            } else {
                Checks.refuses(isLetter ? "^materials" + behind : "materials^" + behind, 1);
            }
        }
    }

    private static void differentNames() {
        Sentences.holds(0, "All buyers have different names.");
        String rest = " 0 0 1 0 0;";
        Checks.reads(LINE + "buyer a" + rest + "buyer b" + rest + "buyer aa" + rest + "buyer ab" + rest, 1);
        Checks.reads(LINE + "buyer zzzzzz" + rest + "buyer zzzzzy" + rest + "buyer yzzzzz" + rest + "buyer zzzzz" + rest, 1);
        Checks.refuses(LINE + "buyer a" + rest + "buyer ^a" + rest, 3);
        Checks.refuses(LINE + "buyer zzzzzz" + rest + "buyer ^zzzzzz" + rest, 3);
        Checks.refuses(LINE + "buyer a 0 0 1 0 0;buyer ^a 1 2 99 9 9;", 3);
    }

    private static void laterSettings() {
        Sentences.holds(0, "Later statements for the same setting replace earlier ones.");
        int[] first = {50, 100, 95, 85, 20, 2, 1, 2};
        for (int what = 0; what < 8; what++) {
            int[] range = RANGES[what];
            String set = "set " + what + " ";
            RecyclingLine x = Checks.lineOf(LINE + set + range[1] + ";load 1;" + set + range[0] + ";");
            RecyclingLine y = Checks.lineOf(LINE + set + range[0] + ";" + set + range[1] + ";" + set + range[1] + ";");
            for (int other = 0; other < 8; other++) {
                Checks.due("setting " + other, x.setting(other), other == what ? range[0] : first[other]);
                Checks.due("setting " + other, y.setting(other), other == what ? range[1] : first[other]);
            }
        }
    }

    private static void loadsOfNothing() {
        Sentences.holds(0, "A load whose masses are all 0 adds nothing.");
        RecyclingLine none = Checks.lineOf("materials 3;station 0 0 1 0;load 0;load 0 0;load 0 0 0;");
        Checks.due("parcels", none.line(4), 0);
        Checks.due("mass", none.balance(0), 0L);
        RecyclingLine some = Checks.lineOf("materials 3;station 0 0 1 0;load 0;load 7;load 0 0 0;load 0 0 1;load 0;");
        Checks.due("parcels", some.line(4), 2);
        Checks.masses(some, 16, 7, 0, 0);
        Checks.masses(some, 17, 0, 0, 1);
        Checks.due("mass", some.balance(0), 8L);
        // Nor does it take a place from others.
        RecyclingLine full = Checks.lineOf("materials 1;station 0 0 1 0;" + "load 0;".repeat(31) + "load 1;".repeat(30));
        Checks.due("parcels", full.line(4), 30);
    }

    private static void leastOffset() {
        Sentences.holds(0, "The error with the least byte offset of a token is reported");
        Checks.refuses("^?materials 9;", 1);
        Checks.refuses("materials ^9?", 2);
        Checks.refuses(LINE + "set ^8 999;?", 2);
        Checks.refuses(LINE + "set 0 ^0;set 9 9;?", 2);
        Checks.refuses(LINE + "buyer a 0 0 1 0 0;buyer ^a 9 9 0 999 999", 3);
        Checks.refuses("materials 1;" + "station 0 0 1 0;".repeat(8) + "^station 9 99 99 99 ?", 5);
        Checks.refuses("materials 1;" + "load 1;".repeat(30) + "^load 1000 9;", 5);
        // That of the token, not that of the statement, nor of the blanks ahead of the token.
        Checks.refuses("materials 1;station 0 \n ^10 1 0;", 2);
        Checks.refuses("materials 1;station 0 0 1 0 \n ^?", 1);
        // A missing station is an error behind all others.
        Checks.refuses("materials 1;set 0 ^0;", 2);
        Checks.refuses("materials 1;^?", 1);
    }

    private static void endOfTheText() {
        Sentences.holds(0, "(the length of the text if the text ends too early)");
        String[] tokens = {"materials", "2", ";", "station", "1", "3", "7", "6", ";", "set", "0", "44", ";", "load", "9", "8", ";",
            "buyer", "a", "1", "2", "30", "4", "5", ";"};
        String text = "";
        for (int count = 0; count <= tokens.length; count++) {
            boolean isWhole = count > 3 && tokens[count - 1].equals(";");
            for (String behind : new String[] {"", " ", "\n", " \n ".repeat(9)}) {
                if (isWhole) {
                    Checks.reads(text + behind, 1);
                } else {
                    Checks.refuses(text + behind + "^", 1);
                }
            }
            text = count == tokens.length ? text : text + (count == 0 ? "" : " ") + tokens[count];
        }
    }

    private static void leastKind() {
        Sentences.holds(0, "if several kinds apply to one token, the least kind");
        // Out of range, and not allowed there.
        Checks.refuses(LINE + "load 1 1 ^1000;", 1);
        Checks.refuses(LINE + "set ^99999 1;", 1);
        Checks.refuses(LINE + "set 0 1 ^9999;", 1);
        // The word of a ninth station, fifth buyer or load into a full hopper, where no statement begins.
        Checks.refuses("materials 1;" + "station 0 0 1 0;".repeat(8) + "set ^station 0 0 1 0;", 1);
        Checks.refuses("materials 1;" + "station 0 0 1 0;".repeat(7) + "station 0 0 1 0 ^station 0 0 1 0;", 1);
        Checks.refuses(LINE + fourBuyers() + "set 0 ^buyer e 0 0 1 0 0;", 1);
        Checks.refuses(LINE + "load 1;".repeat(30) + "set 0 1 ^load 1;", 1);
        // An earlier name, where there is no place for a name.
        Checks.refuses(LINE + "buyer a 0 0 1 0 0;buyer b ^a 0 0 1 0 0;", 1);
        Checks.refuses(LINE + "buyer a 0 0 1 0 0;^a 0 0 1 0 0;", 1);
        Checks.refuses(LINE + "buyer a 0 0 1 0 0;buyer ^set 0 0 1 0 0;", 1);
    }

    private static void invalidTokens() {
        Sentences.holds(0, "1: an invalid token (a longer run of digits, a byte other than ; that begins no token)");
        for (int sign = 0; sign < 256; sign++) {
            if (sign != ' ' && sign != '\n') {
                Checks.refuses(LINE + "^" + (char) sign, 1);
            }
        }
        Checks.refuses(LINE + "^12345", 1);
        Checks.refuses(LINE + "load ^00000;", 1);
        Checks.refuses(LINE + "load 1^?", 1);
        Checks.refuses(LINE + "^lo?ad 1;", 1);
        Checks.refuses(LINE + "set 0 1^?;", 1);
    }

    private static void tokensNotAllowed() {
        Sentences.holds(0, "or a token that is not allowed there");
        String[] statement = {"materials", "station", "set", "load", "buyer", ";", "1", "a"};
        // Where a number has to stand, where a semicolon has to, and where a name has to.
        for (String token : statement) {
            if (!token.equals("1")) {
                Checks.refuses("materials ^" + token, 1);
                Checks.refuses(LINE + "set 0 ^" + token, 1);
                Checks.refuses(LINE + "load ^" + token, 1);
                Checks.refuses(LINE + "station 0 0 1 ^" + token, 1);
                Checks.refuses(LINE + "buyer a 0 0 1 0 ^" + token, 1);
            }
            if (!token.equals(";")) {
                Checks.refuses("materials 1 ^" + token, 1);
                Checks.refuses(LINE + "set 0 1 ^" + token, 1);
                Checks.refuses(LINE + "load 1 1 ^" + token, 1);
                Checks.refuses(LINE + "station 0 0 1 0 ^" + token, 1);
                Checks.refuses(LINE + "buyer a 0 0 1 0 0 ^" + token, 1);
            }
            if (!token.equals("a")) {
                Checks.refuses(LINE + "buyer ^" + token, 1);
            }
            if (!token.equals("materials")) {
                Checks.refuses("^" + token + " 1;", 1);
            }
        }
        for (String token : new String[] {"materials", ";", "1", "a"}) {
            Checks.refuses(LINE + "^" + token, 1);
        }
    }

    private static void furtherNumbers() {
        Sentences.holds(0, "also a further NUMBER of a load that has as many as there are materials");
        for (int materials = 1; materials <= 6; materials++) {
            String text = "materials " + materials + ";station 0 0 1 0;load";
            Checks.reads(text + " 999".repeat(materials) + ";", 1);
            Checks.refuses(text + " 999".repeat(materials) + " ^0;", 1);
            Checks.refuses(text + " 0".repeat(materials) + " ^1000", 1);
        }
    }

    private static void noStation() {
        Sentences.holds(0, "the end of a text without a station");
        Checks.refuses("materials 1;^", 1);
        Checks.refuses("materials 6; \n^", 1);
        Checks.refuses("materials 1;set 0 1;load 1;buyer a 0 0 1 0 0;^", 1);
        Checks.refuses("materials 1;" + " ".repeat(688) + "^", 1);
        Checks.reads("materials 1;load 1;station 0 0 1 0;", 1);
    }

    private static void numbersOutOfRange() {
        Sentences.holds(0, "2: a NUMBER that is out of its range");
        String[][] least = {{"materials ", "1", ";station 0 0 1 0;"}, {LINE + "station 0 ", "0", " 1 0;"},
            {LINE + "station 0 0 ", "1", " 0;"}, {LINE + "station 0 0 1 ", "0", ";"}, {LINE + "buyer a 0 ", "0", " 1 0 0;"},
            {LINE + "buyer a 0 0 ", "1", " 0 0;"}, {LINE + "buyer a 0 0 1 ", "0", " 0;"},
            {LINE + "buyer a 0 0 1 0 ", "0", ";"}, {LINE + "load ", "0", ";"}, {LINE + "load 0 ", "0", ";"}};
        int[] greatest = {6, 9, 50, 30, 2, 9999, 100, 100, 999, 999};
        for (int i = 0; i < least.length; i++) {
            numberInRange(least[i][0], Integer.parseInt(least[i][1]), greatest[i], least[i][2]);
        }
        for (int what = 0; what < 8; what++) {
            numberInRange(LINE + "set " + what + " ", RANGES[what][0], RANGES[what][1], ";");
        }
    }

    private static void numberInRange(String ahead, int least, int greatest, String behind) {
        int stations = ahead.startsWith(LINE + "station") ? 2 : 1;
        Checks.reads(ahead + least + behind, stations);
        Checks.reads(ahead + greatest + behind, stations);
        if (least > 0) {
            Checks.refuses(ahead + "^" + (least - 1) + behind, 2);
        }
        if (greatest < 9999) {
            Checks.refuses(ahead + "^" + (greatest + 1) + behind, 2);
            Checks.refuses(ahead + "^9999" + behind, 2);
        }
    }

    private static void numbersThatNameNothing() {
        Sentences.holds(0, "or names no material or setting");
        for (int materials = 1; materials <= 6; materials++) {
            String text = "materials " + materials + ";station 0 0 1 0;";
            int last = materials - 1;
            Checks.reads(text + "station " + last + " 0 1 0;", 2);
            Checks.refuses(text + "station ^" + materials + " 0 1 0;", 2);
            Checks.reads(text + "buyer a " + last + " 0 1 0 0;", 1);
            Checks.refuses(text + "buyer a ^" + materials + " 0 1 0 0;", 2);
        }
        Checks.reads(LINE + "set 7 0;", 1);
        Checks.refuses(LINE + "set ^8 0;", 2);
        Checks.refuses(LINE + "set ^9999 0;", 2);
    }

    private static void namesTaken() {
        Sentences.holds(0, "3: the NAME of a buyer that an earlier buyer has.");
        String rest = " 0 0 1 0 0;";
        String three = LINE + "buyer a" + rest + "buyer b" + rest + "buyer abcdef" + rest;
        Checks.reads(three + "buyer c" + rest, 1);
        Checks.refuses(three + "buyer ^a" + rest, 3);
        Checks.refuses(three + "buyer ^b", 3);
        Checks.refuses(three + "buyer ^abcdef" + rest, 3);
        Checks.reads(three + "buyer abcde" + rest, 1);
    }

    private static void ninthStation() {
        Sentences.holds(0, "5: the word \"station\" of a ninth station");
        String eight = "materials 1;" + "station 0 0 1 0;".repeat(8);
        Checks.reads(eight, 8);
        Checks.reads(eight + "set 0 1;load 1;buyer a 0 0 1 0 0;", 8);
        Checks.refuses(eight + "^station 0 0 1 0;", 5);
        Checks.refuses(eight + "^station", 5);
        Checks.refuses(eight + "^stations", 1);
    }

    private static void fifthBuyer() {
        Sentences.holds(0, "\"buyer\" of a fifth buyer");
        Checks.reads(LINE + fourBuyers(), 1);
        Checks.reads(LINE + fourBuyers() + "set 0 1;load 1;station 0 0 1 0;", 2);
        Checks.refuses(LINE + fourBuyers() + "^buyer e 0 0 1 0 0;", 5);
        Checks.refuses(LINE + fourBuyers() + "^buyer a 0 0 1 0 0;", 5);
        Checks.refuses(LINE + fourBuyers() + "^buyer", 5);
    }

    private static void loadIntoAFullHopper() {
        Sentences.holds(0, "\"load\" of a load when the hopper holds 30 parcels");
        String full = LINE + "load 1;".repeat(30);
        Checks.reads(full, 1);
        Checks.reads(full + "set 0 1;station 0 0 1 0;" + fourBuyers(), 2);
        Checks.refuses(full + "^load 1;", 5);
        Checks.refuses(full + "^load 0;", 5);
        Checks.refuses(full + "^load", 5);
        Checks.reads(LINE + "load 1;".repeat(29) + "load 0;load 0;load 1;", 1);
        Checks.refuses(LINE + "load 1;".repeat(29) + "load 0;load 1;^load 0;", 5);
    }

    private static String fourBuyers() {
        return "buyer a 0 0 1 0 0;buyer b 0 0 1 0 0;buyer c 0 0 1 0 0;buyer d 0 0 1 0 0;";
    }
}
