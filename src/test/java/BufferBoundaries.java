/** The boundaries of promises 1 to 6: a new object, the input buffer, reading it, finding in it. */
final class BufferBoundaries {
    private static final String LINE = "materials 2;station 0 1 10 0;";
    private static final int[] LONGEST = {-1, Integer.MIN_VALUE, 701, 720, Integer.MAX_VALUE};

    private BufferBoundaries() {
    }

    static void all() {
        Checks.each(BufferBoundaries::newObject, BufferBoundaries::emptyBufferOfANewObject,
            BufferBoundaries::appendedBytes, BufferBoundaries::appendedSigns, BufferBoundaries::fullBuffer,
            BufferBoundaries::shortened, BufferBoundaries::truncateBounds, BufferBoundaries::bufferLengths,
            BufferBoundaries::readReplaces, BufferBoundaries::readsInTurn, BufferBoundaries::readEmpties,
            BufferBoundaries::readAnswers, BufferBoundaries::refusedReadKeeps, BufferBoundaries::foundNames,
            BufferBoundaries::findEmpties, BufferBoundaries::foundNone);
    }

    private static void newObject() {
        Sentences.holds(1, "Creates a line as the text \"materials 1;station 0 0 1 0;\" describes it.");
        RecyclingLine x = new RecyclingLine();
        Checks.due("a new object", Checks.everything(x), Checks.everything(Checks.lineOf("materials 1;station 0 0 1 0;")));
        Checks.due("materials", x.line(0), 1);
        Checks.due("stations", x.line(1), 1);
        Checks.due("buyers", x.line(2), 0);
        Checks.properties(x, 0, 0, 0, 1, 0, 0, 0, 0, 0, -1, 0, 0);
        Checks.due("what can be undone", x.undo(), -1);
    }

    private static void emptyBufferOfANewObject() {
        Sentences.holds(1, "The input buffer is empty.");
        Checks.due("length", new RecyclingLine().bufferLength(), 0);
        Checks.due("truncate(1)", new RecyclingLine().truncate(1), false);
        Checks.due("read", new RecyclingLine().read(), -1);
        Checks.due("append", new RecyclingLine().append(0, 0, 0, 0, 0), 20);
    }

    private static void appendedBytes() {
        Sentences.holds(2, "Appends twenty bytes to the input buffer: the four bytes of each argument, most"
            + " significant byte first.");
        // A byte that begins no token, at each of the twenty places in turn.
        for (int place = 0; place < 20; place++) {
            RecyclingLine x = new RecyclingLine();
            int[] words = {0x20202020, 0x20202020, 0x20202020, 0x20202020, 0x20202020};
            words[place / 4] += ('?' - ' ') << 24 - 8 * (place % 4);
            Checks.due("length", x.append(words[0], words[1], words[2], words[3], words[4]), 20);
            Checks.due("read with a wrong byte at " + place, x.read(), -(8 * place + 1));
        }
    }

    private static void appendedSigns() {
        Sentences.holds(2, "the four bytes of each argument, most significant byte first");
        // Bytes of 128 and more are bytes like others, also where they make an argument negative.
        int[] signs = {0x80, 0xff, 0xc3, 0x7f, 0};
        for (int sign : signs) {
            for (int place = 0; place < 4; place++) {
                RecyclingLine x = new RecyclingLine();
                int shift = 24 - 8 * place;
                x.append(0x20202020 & ~(0xff << shift) | sign << shift, 0x20202020, 0x20202020, 0x20202020, 0x20202020);
                Checks.due("read with the byte " + sign + " at " + place, x.read(), -(8 * place + 1));
            }
        }
        RecyclingLine x = Checks.lineOf(LINE + "buyer az 0 0 1 0 0;");
        x.append(0x617a8080, -1, -1, -1, -1);
        x.truncate(2);
        Checks.due("find of the first two bytes", x.find(), 0);
        x.append(0x617a8080, -1, -1, -1, -1);
        x.truncate(3);
        Checks.due("find of three bytes", x.find(), -1);
    }

    private static void fullBuffer() {
        Sentences.holds(2, "Returns the new length of the buffer; NONE, and the buffer is unchanged, if it would"
            + " exceed 700 bytes.");
        RecyclingLine x = new RecyclingLine();
        for (int length = 20; length <= 700; length += 20) {
            Checks.due("append", x.append(0x20202020, 0x20202020, 0x20202020, 0x20202020, 0x20202020), length);
        }
        Checks.due("append to a full buffer", x.append(0x3f3f3f3f, 0, 0, 0, 0), -1);
        Checks.due("its length then", x.bufferLength(), 700);
        x.truncate(681);
        Checks.due("append to 681 bytes", x.append(0x3f3f3f3f, 0, 0, 0, 0), -1);
        Checks.due("its length then", x.bufferLength(), 681);
        Checks.due("its bytes then", x.read(), -(8 * 681 + 1));
        Checks.type(x, " ".repeat(680));
        Checks.due("append to 680 bytes", x.append(0x20202020, 0x20202020, 0x20202020, 0x20202020, 0x2020203f), 700);
        Checks.due("the last byte", x.read(), -(8 * 699 + 1));
    }

    private static void shortened() {
        Sentences.holds(3, "Shortens the input buffer.", "length: the new length");
        RecyclingLine x = Checks.lineOf(LINE + "buyer abc 0 0 1 0 0;buyer ab 0 0 1 0 0;");
        Checks.type(x, "abcd");
        x.truncate(3);
        Checks.due("the first three bytes", x.find(), 0);
        Checks.type(x, "abcd");
        x.truncate(3);
        x.truncate(2);
        Checks.due("the first two bytes", x.find(), 1);
        Checks.type(x, "abcd");
        x.truncate(0);
        x.append(0x61622020, 0, 0, 0, 0);
        x.truncate(2);
        Checks.due("what is appended then is the first", x.find(), 1);
        x.append(0x61000000, 0, 0, 0, 0);
        x.truncate(1);
        x.append(0x62630000, 0, 0, 0, 0);
        x.truncate(3);
        Checks.due("what is appended then comes behind what stayed", x.find(), 0);
    }

    private static void truncateBounds() {
        Sentences.holds(3, "Returns true; false, and the buffer is unchanged, if length is negative or greater than"
            + " the current length.");
        RecyclingLine x = new RecyclingLine();
        Checks.due("an empty buffer to 0", x.truncate(0), true);
        Checks.due("an empty buffer to 1", x.truncate(1), false);
        Checks.due("an empty buffer to -1", x.truncate(-1), false);
        x.append(0x20202020, 0x20202020, 0x20202020, 0x20202020, 0x20202020);
        Checks.due("20 bytes to 20", x.truncate(20), true);
        Checks.due("20 bytes to 21", x.truncate(21), false);
        for (int length : LONGEST) {
            Checks.due("20 bytes to " + length, x.truncate(length), false);
            Checks.due("their length then", x.bufferLength(), 20);
        }
        Checks.due("20 bytes to 19", x.truncate(19), true);
        Checks.due("19 bytes to 20, which once were there", x.truncate(20), false);
        Checks.due("their length then", x.bufferLength(), 19);
        Checks.due("their bytes then", x.read(), -(8 * 19 + 1));
        Checks.type(x, " ".repeat(700));
        for (int length : LONGEST) {
            Checks.due("700 bytes to " + length, x.truncate(length), false);
        }
        Checks.due("700 bytes to 700", x.truncate(700), true);
        Checks.due("their length then", x.bufferLength(), 700);
    }

    private static void bufferLengths() {
        Sentences.holds(4, "Returns the current length of the input buffer.");
        RecyclingLine x = new RecyclingLine();
        Checks.due("empty", x.bufferLength(), 0);
        x.append(0, 0, 0, 0, 0);
        Checks.due("behind an append", x.bufferLength(), 20);
        x.truncate(1);
        Checks.due("behind truncate(1)", x.bufferLength(), 1);
        Checks.type(x, "?".repeat(700));
        Checks.due("full", x.bufferLength(), 700);
        x.truncate(0);
        Checks.due("behind truncate(0)", x.bufferLength(), 0);
    }

    private static void readReplaces() {
        Sentences.holds(5, "Reads the input buffer as a text, which replaces everything; no tick has been made then.");
        RecyclingLine x = Checks.lineOf("materials 2;station 0 9 50 30;station 1 0 1 0;set 0 200;set 1 20;set 4 0;set 5 0;"
            + "buyer a 0 2 9 0 100;load 90 70;load 150 50;load 9;");
        x.run(4);
        x.sell(0, 0);
        x.clean(0);
        Checks.type(x, "materials 1;station 0 0 1 0;");
        Checks.due("read", x.read(), 1);
        Checks.due("ticks", x.line(3), 0);
        Checks.due("everything", Checks.everything(x), Checks.everything(new RecyclingLine()));
        Checks.finds(x, "a", -1);
    }

    private static void readsInTurn() {
        Sentences.holds(5, "which replaces everything");
        String used = "materials 2;station 1 9 50 30;station 0 1 9 0;station 1 0 1 0;set 0 200;set 1 20;set 4 0;set 5 0;set 7 1;"
            + "buyer b 1 2 99 0 99;buyer c 1 2 9 0 0;load 70 90;load 50 150;load 9;load 9;load 9;load 9;";
        String text = "materials 2;station 1 9 50 0;set 1 20;buyer a 1 0 1 0 0;";
        for (int before = 0; before < 6; before++) {
            RecyclingLine x = new RecyclingLine();
            // One, two or three texts behind the one that was used: an object may keep some lines that it uses in turn.
            Checks.type(x, used);
            x.read();
            x.run(5);
            Checks.due("sold", x.sell(0, 0) > 0, true);
            Checks.due("sent back", x.sell(0, 1), -1);
            x.clean(before % 2);
            for (int i = 0; i < before / 2; i++) {
                Checks.type(x, text);
                x.read();
            }
            Checks.type(x, text);
            Checks.due("read", x.read(), 1);
            RecyclingLine fresh = Checks.lineOf(text);
            Checks.due("everything", Checks.everything(x), Checks.everything(fresh));
            Checks.due("bales in the outlook", x.outlook(1, 0) + x.outlook(1, 1) + x.outlook(1, 3), 0);
            Checks.due("ticks to emptiness", x.emptied(), 0);
            x.run(1);
            Checks.due("nothing comes to the belt", x.line(5), 0);
            Checks.finds(x, "b", -1);
            Checks.finds(x, "a", 0);
            Checks.due("what can be undone", x.undo(), 0);
            x.load(1, 20);
            fresh.load(1, 20);
            x.run(2);
            fresh.run(2);
            Checks.due("everything later", Checks.everything(x), Checks.everything(fresh));
        }
    }

    private static void readEmpties() {
        Sentences.holds(5, "The buffer is empty afterwards.");
        RecyclingLine x = new RecyclingLine();
        Checks.due("read of nothing", x.read(), -1);
        Checks.due("length behind it", x.bufferLength(), 0);
        String[] texts = {LINE, LINE + "?", "?".repeat(700), LINE + " ".repeat(700 - LINE.length())};
        for (String text : texts) {
            Checks.type(x, text);
            x.read();
            Checks.due("length behind " + text, x.bufferLength(), 0);
        }
    }

    private static void readAnswers() {
        Sentences.holds(5, "Returns the number of stations; if there is an error, -(8 * offset + kind), and"
            + " everything stays.");
        Checks.reads("materials 1;station 0 0 1 0;", 1);
        Checks.reads("materials 1;" + "station 0 0 1 0;".repeat(8), 8);
        Checks.refuses("^", 1);
        Checks.refuses("^?", 1);
        Checks.refuses(" ".repeat(700) + "^", 1);
        Checks.refuses(" ".repeat(699) + "^?", 1);
        Checks.refuses(" ".repeat(689) + "materials ^7", 2);
        Checks.refuses(LINE + "buyer a 0 0 1 0 0;" + " ".repeat(646) + "buyer ^a", 3);
        Checks.refuses("materials 1;" + "station 0 0 1 0;".repeat(8) + " ".repeat(553) + "^station", 5);
    }

    private static void refusedReadKeeps() {
        Sentences.holds(5, "if there is an error, -(8 * offset + kind), and everything stays");
        String good = "materials 6;station 5 4 3 2;set 0 9;buyer b 1 1 1 1 1;load 9 9 9 9 9 9;";
        String[] wrong = {"", "?", good.substring(0, good.length() - 1), good + "?", good + "set 0 0;",
            good + "buyer b 1 1 1 1 1;", good + "station 5 4 3 2;".repeat(8), good + "load 9;".repeat(30)};
        for (String text : wrong) {
            RecyclingLine x = Checks.lineOf("materials 2;station 0 9 50 30;set 1 20;buyer a 0 2 9 0 9;load 90 70;load 9 9;");
            x.run(1);
            String before = Checks.everything(x);
            x.set(0, 7);
            x.set(0, 50);
            Checks.type(x, text);
            Checks.due("an error in " + text, x.read() < 0, true);
            Checks.due("everything behind it", Checks.everything(x), before);
            Checks.finds(x, "b", -1);
            Checks.finds(x, "a", 0);
            Checks.due("what can be undone", x.undo(), 2);
            Checks.due("is undone", x.setting(0), 7);
        }
    }

    private static void foundNames() {
        Sentences.holds(6, "Finds the buyer whose name is exactly the content of the input buffer",
            "Returns the buyer; NONE if there is none.");
        RecyclingLine x = Checks.lineOf(LINE
            + "buyer a 0 0 1 0 0;buyer abcdef 0 0 1 0 0;buyer abcde 0 0 1 0 0;buyer zzzzzz 0 0 1 0 0;");
        Checks.finds(x, "a", 0);
        Checks.finds(x, "abcdef", 1);
        Checks.finds(x, "abcde", 2);
        Checks.finds(x, "zzzzzz", 3);
        String[] none = {"", "b", "aa", "abcdeg", "bbcdef", "abcdefg", "abcdeff", " a", "a ", "a\n", "a;", "A", "\u0000a",
            "a\u0000", "\u00e1", "fedcba", "zzzzz", "zzzzzzz", "a".repeat(700)};
        for (String name : none) {
            Checks.finds(x, name, -1);
        }
    }

    private static void findEmpties() {
        Sentences.holds(6, "which is emptied");
        RecyclingLine x = Checks.lineOf(LINE + "buyer a 0 0 1 0 0;");
        Checks.finds(x, "a", 0);
        Checks.due("length when one was found", x.bufferLength(), 0);
        Checks.due("now there is nothing to find", x.find(), -1);
        Checks.finds(x, "b".repeat(700), -1);
        Checks.due("length when none was found", x.bufferLength(), 0);
    }

    private static void foundNone() {
        Sentences.holds(6, "NONE if there is none");
        RecyclingLine x = Checks.lineOf(LINE);
        Checks.finds(x, "", -1);
        Checks.finds(x, "a", -1);
        // Nor one of a text that was read before or that was refused.
        Checks.type(x, LINE + "buyer a 0 0 1 0 0;");
        x.read();
        Checks.finds(x, "a", 0);
        Checks.type(x, LINE + "buyer b 0 0 1 0 0;?");
        x.read();
        Checks.finds(x, "b", -1);
        Checks.type(x, LINE);
        x.read();
        Checks.finds(x, "a", -1);
    }
}
