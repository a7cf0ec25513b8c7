/** What the tests share: counting wrong answers and putting texts into the input buffer. */
final class Checks {
    private static int wrong;

    private Checks() {
    }

    interface Call {
        Object answer();
    }

    static void due(String what, Object got, Object want) {
        if (!want.equals(got)) {
            wrong++;
            System.out.println(Sentences.heldNow() + what + " answered " + got + ", due is " + want);
        }
    }

    /** The answer of a call, or the class of what it throws. */
    static Object outcome(Call call) {
        try {
            return call.answer();
        } catch (RuntimeException e) {
            return e.getClass();
        }
    }

    static void dueThrow(String what, Class<? extends RuntimeException> want, Call call) {
        due(what, outcome(call), want);
    }

    /** Runs each test, whatever the others throw. */
    static void each(Runnable... tests) {
        for (Runnable test : tests) {
            due("a test to its end", outcome(() -> ended(test)), "ended");
        }
    }

    private static String ended(Runnable test) {
        test.run();
        return "ended";
    }

    static int word(String text, int from) {
        int four = 0;
        for (int i = from; i < from + 4; i++) {
            four = four << 8 | (i < text.length() ? text.charAt(i) & 255 : 0);
        }
        return four;
    }

    /** Makes the text (its characters as bytes) the content of the buffer. */
    static void type(RecyclingLine line, String text) {
        line.truncate(0);
        for (int i = 0; i < text.length(); i += 20) {
            line.append(word(text, i), word(text, i + 4), word(text, i + 8), word(text, i + 12), word(text, i + 16));
        }
        line.truncate(text.length());
    }

    static RecyclingLine lineOf(String text) {
        RecyclingLine line = new RecyclingLine();
        type(line, text);
        int answer = line.read();
        if (answer < 0) {
            wrong++;
            System.out.println(Sentences.heldNow() + "a text of the tests is refused: " + answer + " for " + text);
        }
        return line;
    }

    static void reads(String text, int stations) {
        RecyclingLine x = new RecyclingLine();
        type(x, text);
        due("read of " + text, x.read(), stations);
    }

    /** The sign ^ stands ahead of the token that is reported. */
    static void refuses(String marked, int kind) {
        int offset = marked.indexOf('^');
        String text = marked.substring(0, offset) + marked.substring(offset + 1);
        RecyclingLine x = new RecyclingLine();
        type(x, text);
        due("read of " + marked, x.read(), -(8 * offset + kind));
        due("line after " + marked, everything(x), everything(new RecyclingLine()));
    }

    static void finds(RecyclingLine x, String name, int want) {
        type(x, name);
        due("find of " + name, x.find(), want);
        due("buffer after find", x.bufferLength(), 0);
    }

    static void masses(RecyclingLine x, int place, int... due) {
        for (int m = 0; m < due.length; m++) {
            due("mass(" + place + ", " + m + ")", x.mass(place, m), due[m]);
        }
    }

    static void properties(RecyclingLine x, int station, int... due) {
        for (int what = 0; what < due.length; what++) {
            due("station(" + station + ", " + what + ")", x.station(station, what), due[what]);
        }
    }

    /**
     * All that there is on a line, in one text. It asks where something can be and no further, for an object is meant
     * for 512 calls.
     */
    static String everything(RecyclingLine line) {
        StringBuilder all = new StringBuilder();
        int[] counts = new int[11];
        for (int what = 0; what <= 10; what++) {
            counts[what] = line.line(what);
            all.append(counts[what]).append(what == 10 ? '\n' : ' ');
        }
        for (int what = 0; what < 8; what++) {
            all.append(line.setting(what)).append(' ').append(line.balance(what)).append(what == 7 ? '\n' : ' ');
        }
        for (int station = 0; station < counts[1]; station++) {
            for (int what = 0; what <= 10; what++) {
                all.append(line.station(station, what)).append(' ');
            }
            addMasses(all, line, station, counts[0]);
            addMasses(all, line, 8 + station, counts[0]);
        }
        for (int parcel = 0; parcel < Math.min(counts[4] + 1, 30); parcel++) {
            addMasses(all, line, 16 + parcel, counts[0]);
        }
        addMasses(all, line, 46, counts[0]);
        addBalesAndBuyers(all, line, counts);
        for (int m = 0; m < counts[0]; m++) {
            all.append(line.purity(m)).append(' ');
        }
        return all.append(line.loss()).toString();
    }

    private static void addMasses(StringBuilder all, RecyclingLine line, int place, int materials) {
        for (int m = 0; m < materials; m++) {
            all.append(line.mass(place, m)).append(m == materials - 1 ? '\n' : ' ');
        }
    }

    private static void addBalesAndBuyers(StringBuilder all, RecyclingLine line, int[] counts) {
        for (int bale = 0; bale < counts[6]; bale++) {
            for (int what = 0; what < 5 + counts[0]; what++) {
                all.append(line.bale(bale, what)).append(what == 4 + counts[0] ? '\n' : ' ');
            }
        }
        for (int buyer = 0; buyer < counts[2]; buyer++) {
            for (int what = 0; what <= 5; what++) {
                all.append(line.buyer(buyer, what)).append(what == 5 ? '\n' : ' ');
            }
        }
    }

    static void finish() {
        System.out.println(wrong == 0 ? "all answers are as due" : wrong + " answers are not as due");
        if (wrong != 0) {
            System.exit(1);
        }
    }
}
