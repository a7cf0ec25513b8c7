/** What the tests share: counting wrong answers and putting texts into the input buffer. */
final class Checks {
    private static int wrong;

    private Checks() {
    }

    interface Call {
        Object answer();
    }

    static void due(String what, Object got, Object want) {
        if (!want.equals(got)) {
            wrong++;
            System.out.println(Sentences.heldNow() + what + " answered " + got + ", due is " + want);
        }
    }

    /** The answer of a call, or the class of what it throws. */
    static Object outcome(Call call) {
        try {
            return call.answer();
        } catch (RuntimeException e) {
            return e.getClass();
        }
    }

    static void dueThrow(String what, Class<? extends RuntimeException> want, Call call) {
        due(what, outcome(call), want);
    }

    /** Runs each test, whatever the others throw. */
    static void each(Runnable... tests) {
        for (Runnable test : tests) {
            due("a test to its end", outcome(() -> ended(test)), "ended");
        }
    }

    private static String ended(Runnable test) {
        test.run();
        return "ended";
    }

    static int word(String text, int from) {
        int four = 0;
        for (int i = from; i < from + 4; i++) {
            four = four << 8 | (i < text.length() ? text.charAt(i) & 255 : 0);
        }
        return four;
    }

    /** Makes the text (its characters as bytes) the content of the buffer. */
    static void type(RecyclingLine line, String text) {
        line.truncate(0);
        for (int i = 0; i < text.length(); i += 20) {
            line.append(word(text, i), word(text, i + 4), word(text, i + 8), word(text, i + 12), word(text, i + 16));
        }
        line.truncate(text.length());
    }

    static RecyclingLine lineOf(String text) {
        RecyclingLine line = new RecyclingLine();
        type(line, text);
        int answer = line.read();
        if (answer < 0) {
            wrong++;
            System.out.println(Sentences.heldNow() + "a text of the tests is refused: " + answer + " for " + text);
        }
        return line;
    }

    static void reads(String text, int stations) {
        RecyclingLine x = new RecyclingLine();
        type(x, text);
        due("read of " + text, x.read(), stations);
    }

    /** The sign ^ stands ahead of the token that is reported. */
    static void refuses(String marked, int kind) {
        int offset = marked.indexOf('^');
        String text = marked.substring(0, offset) + marked.substring(offset + 1);
        RecyclingLine x = new RecyclingLine();
        type(x, text);
        due("read of " + marked, x.read(), -(8 * offset + kind));
        due("line after " + marked, everything(x), everything(new RecyclingLine()));
    }

    static void finds(RecyclingLine x, String name, int want) {
        type(x, name);
        due("find of " + name, x.find(), want);
        due("buffer after find", x.bufferLength(), 0);
    }

    static void masses(RecyclingLine x, int place, int... due) {
        for (int m = 0; m < due.length; m++) {
            due("mass(" + place + ", " + m + ")", x.mass(place, m), due[m]);
        }
    }

    static void properties(RecyclingLine x, int station, int... due) {
        for (int what = 0; what < due.length; what++) {
            due("station(" + station + ", " + what + ")", x.station(station, what), due[what]);
        }
    }

    /** All that can be asked about a line without changing it, in one text. */
    static String everything(RecyclingLine line) {
        StringBuilder all = new StringBuilder();
        for (int what = -1; what <= 11; what++) {
            all.append(line.line(what)).append(what == 11 ? '\n' : ' ');
        }
        for (int what = 0; what < 8; what++) {
            all.append(line.setting(what)).append(' ').append(line.balance(what)).append(what == 7 ? '\n' : ' ');
        }
        for (int station = 0; station < line.line(1); station++) {
            for (int what = 0; what <= 10; what++) {
                all.append(line.station(station, what)).append(what == 10 ? '\n' : ' ');
            }
        }
        for (int place = 0; place <= 46; place++) {
            for (int m = 0; m < line.line(0); m++) {
                all.append(line.mass(place, m)).append(m == line.line(0) - 1 ? '\n' : ' ');
            }
        }
        for (int bale = 0; bale < line.line(6); bale++) {
            for (int what = 0; what < 5 + line.line(0); what++) {
                all.append(line.bale(bale, what)).append(what == 4 + line.line(0) ? '\n' : ' ');
            }
        }
        for (int buyer = 0; buyer < line.line(2); buyer++) {
            for (int what = 0; what <= 5; what++) {
                all.append(line.buyer(buyer, what)).append(what == 5 ? '\n' : ' ');
            }
        }
        for (int m = 0; m < line.line(0); m++) {
            all.append(line.purity(m)).append(' ');
        }
        return all.append(line.loss()).toString();
    }

    static void finish() {
        System.out.println(wrong == 0 ? "all answers are as due" : wrong + " answers are not as due");
        if (wrong != 0) {
            System.exit(1);
        }
    }
}
