/** How a line is used, from its text to an undo; README.md shows this file and what it prints. */
public final class Example {
    private Example() {
    }

    public static void main(String[] args) {
        RecyclingLine line = new RecyclingLine();
        type(line, "materials 2; station 0 2 10 10; station 1 1 5 0; set 1 50;\n"
            + "load 120 60; load 80 90; buyer ann 0 2 100 5 20; buyer bob 0 0 120 0 20;");
        say("stations read", line.read());

        say("bales that 10 ticks would press", line.outlook(10, 0));
        say("bales pressed in 10 ticks", line.run(10));
        say("tiredness of station 0", line.station(0, 4));
        say("ticks until hopper and belt are empty", line.emptied());
        say("purity of bale 0", line.bale(0, 3));
        say("its grade", line.bale(0, 4));

        type(line, "bob");
        int bob = line.find();
        say("bob is buyer", bob);
        try {
            line.sell(0, bob);
        } catch (IllegalArgumentException e) {
            System.out.println("bob does not take bale 0");
        }
        int best = line.bestBuyer(0);
        say("who pays most for bale 0", best);
        say("what it pays, less its claim", line.sell(0, best));
        say("bales in stock", line.line(6));
        say("changes that can still be undone after an undo", line.undo());
        say("bales in stock", line.line(6));

        type(line, "materials 2; station 2 1 5 0;");
        int refused = line.read();
        say("offset of the error", -refused / 8);
        say("kind of the error", -refused % 8);
    }

    private static void say(String what, long answer) {
        System.out.println(what + ": " + answer);
    }

    /** Makes a text the content of the input buffer: append() takes twenty bytes, truncate() drops what is too much. */
    private static void type(RecyclingLine line, String text) {
        line.truncate(0);
        for (int i = 0; i < text.length(); i += 20) {
            line.append(four(text, i), four(text, i + 4), four(text, i + 8), four(text, i + 12), four(text, i + 16));
        }
        line.truncate(text.length());
    }

    /** Four bytes of the text as one int, the most significant first; behind its end they are 0. */
    private static int four(String text, int from) {
        int bytes = 0;
        for (int i = from; i < from + 4; i++) {
            bytes = bytes << 8 | (i < text.length() ? text.charAt(i) : 0);
        }
        return bytes;
    }
}
