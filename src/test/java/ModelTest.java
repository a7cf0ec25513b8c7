import java.util.Random;

/**
 * Every promise: long runs of calls, the answers of the class against those of the model. The runs with an even seed
 * keep to the least and greatest of everything, and to what lies one beside. All that is asked in between goes beyond
 * the 512 calls that are promised; the class does not count them.
 */
public final class ModelTest {
    private static final int CALLS = 512;
    private static final String[] PIECES = {"materials", "station", "set", "load", "buyer", "a", "ab", "abcdefg", ";", ";", ";",
        "0", "1", "2", "5", "7", "30", "100", "999", "1000", "9999", "12345", " ", "\n", "-", "\u00c8", "X", "0000", "00001"};

    /** What the document names as the least and the greatest of something, and what lies one beside. */
    private static final int[] EDGES = {-1, 0, 1, 2, 3, 4, 5, 6, 7, 8, 9, 10, 11, 15, 16, 19, 20, 21, 29, 30, 31, 39, 40, 45, 46, 47, 99,
        100, 101, 199, 200, 201, 499, 500, 501, 998, 999, 1000, Integer.MIN_VALUE, Integer.MAX_VALUE};
    private static final int[][] RANGES = {{1, 200}, {20, 500}, {0, 100}, {0, 100}, {0, 100}, {0, 5}, {0, 5}, {0, 20}};

    private final Random random;
    private final boolean onEdges;
    private RecyclingLine real = new RecyclingLine();
    private Model model = new Model();

    private ModelTest(long seed) {
        random = new Random(seed);
        onEdges = seed % 2 == 0;
    }

    public static void main(String[] args) {
        int runs = args.length > 0 ? Integer.parseInt(args[0]) : 150;
        long first = args.length > 1 ? Long.parseLong(args[1]) : 1;
        for (long seed = first; seed < first + runs; seed++) {
            new ModelTest(seed).run(seed);
        }
        Checks.finish();
    }

    private void run(long seed) {
        int dear = 0;
        String before = "a new object";
        for (int call = 0; call < CALLS; call++) {
            int kind = call == 0 ? 0 : random.nextInt(100);
            int a = argument();
            int b = argument();
            // What copies a line many times is dear for the model.
            if (kind >= 92 && dear++ > 12) {
                kind = 20 + random.nextInt(60);
            }
            String name = describe(seed, call, kind, a, b);
            if (kind < 4) {
                text(name, kind == 3);
            } else {
                ask(name, kind, a, b);
            }
            if (call % 16 == 15) {
                everything(name + " after " + before);
            }
            before = name;
        }
    }

    private static String describe(long seed, int call, int kind, int a, int b) {
        return "run " + seed + " call " + call + " kind " + kind + " (" + a + ", " + b + ")";
    }

    private int argument() {
        if (onEdges && random.nextInt(3) == 0) {
            return EDGES[random.nextInt(EDGES.length)];
        }
        int kind = random.nextInt(40);
        if (kind == 0) {
            return random.nextInt();
        }
        if (kind < 3) {
            return random.nextInt(1200) - 100;
        }
        return kind < 6 ? random.nextInt(60) - 2 : random.nextInt(12) - 1;
    }

    private void ask(String name, int kind, int a, int b) {
        if (kind < 14) {
            int mass = onEdges ? b : b * 10;
            same(name, () -> real.load(a, mass), () -> model.load(a, mass));
        } else if (kind < 20) {
            int value = onEdges ? b : b * 9;
            same(name, () -> real.set(a, value), () -> model.set(a, value));
        } else if (kind < 26) {
            same(name, () -> real.staff(a, b), () -> model.staff(a, b));
        } else if (kind < 44) {
            same(name, () -> real.run(a), () -> model.run(a));
        } else if (kind < 60) {
            same(name, () -> real.sell(a, b / 3), () -> model.sell(a, b / 3));
        } else if (kind < 62) {
            same(name, () -> real.clean(a), () -> model.clean(a));
        } else if (kind < 70) {
            same(name, () -> real.undo(), () -> model.undo());
        } else if (kind < 76) {
            same(name, () -> real.bestBuyer(a), () -> model.bestBuyer(a));
        } else if (kind < 92) {
            property(name, kind, a, b);
        } else if (kind < 96) {
            int what = random.nextInt(5);
            int ticks = onEdges ? a : a * 4;
            same(name, () -> real.outlook(ticks, what), () -> model.outlook(ticks, what));
        } else if (kind < 98) {
            same(name, () -> real.bestStaff(b, a), () -> model.bestStaff(b, a));
        } else {
            same(name, () -> real.emptied(), () -> model.emptied());
        }
    }

    private void property(String name, int kind, int a, int b) {
        switch (kind) {
            case 76: same(name, () -> real.line(a), () -> model.line(a)); break;
            case 77: same(name, () -> real.setting(a), () -> model.setting(a)); break;
            case 78: same(name, () -> real.station(a, b), () -> model.station(a, b)); break;
            case 79: same(name, () -> real.mass(a, b), () -> model.mass(a, b)); break;
            case 80: same(name, () -> real.bale(a, b), () -> model.bale(a, b)); break;
            case 81: same(name, () -> real.buyer(a, b), () -> model.buyer(a, b)); break;
            case 82: same(name, () -> real.balance(a), () -> model.balance(a)); break;
            case 83: same(name, () -> real.purity(a), () -> model.purity(a)); break;
            case 84: same(name, () -> real.loss(), () -> model.loss()); break;
            case 85: same(name, () -> real.outlook(a, b), () -> model.outlook(a, b)); break;
            case 86: same(name, () -> real.truncate(a), () -> model.truncate(a)); break;
            case 87: same(name, () -> real.read(), () -> model.read()); break;
            case 88: same(name, () -> real.bufferLength(), () -> model.bufferLength()); break;
            default: type(name, "ab".substring(a & 1) + "b".repeat(b & 1));
                same(name, () -> real.find(), () -> model.find());
        }
    }

    private void text(String name, boolean broken) {
        type(name, broken ? brokenText() : onEdges && random.nextBoolean() ? edgeText() : goodText());
        same(name, () -> real.read(), () -> model.read());
    }

    private void type(String name, String text) {
        same(name, () -> real.truncate(0), () -> model.truncate(0));
        for (int i = 0; i < text.length(); i += 20) {
            int[] w = new int[5];
            for (int k = 0; k < 5; k++) {
                w[k] = Checks.word(text, i + 4 * k);
            }
            same(name, () -> real.append(w[0], w[1], w[2], w[3], w[4]), () -> model.append(w[0], w[1], w[2], w[3], w[4]));
        }
        same(name, () -> real.truncate(text.length()), () -> model.truncate(text.length()));
    }

    private String goodText() {
        int materials = 1 + random.nextInt(6);
        StringBuilder text = new StringBuilder("materials " + materials + ";");
        int stations = 1 + random.nextInt(random.nextInt(8) + 1);
        for (int i = 0; i < stations; i++) {
            text.append("station ").append(random.nextInt(materials)).append(' ').append(random.nextInt(10)).append(' ')
                .append(1 + random.nextInt(50)).append(' ').append(random.nextInt(31)).append(';');
        }
        text.append("set 0 ").append(1 + random.nextInt(200)).append(";set 1 ").append(20 + random.nextInt(60)).append(';');
        text.append("set 2 ").append(random.nextInt(101)).append(";set 3 ").append(random.nextInt(101)).append(';');
        text.append("set 4 ").append(random.nextInt(60)).append(";set 5 ").append(random.nextInt(6)).append(';');
        text.append("set 6 ").append(random.nextInt(6)).append(";set 7 ").append(random.nextInt(21)).append(';');
        for (int i = random.nextInt(5); i > 0; i--) {
            text.append("buyer ").append((char) ('a' + i)).append(random.nextBoolean() ? "b " : " ")
                .append(random.nextInt(materials)).append(' ').append(random.nextInt(3)).append(' ')
                .append(1 + random.nextInt(9999)).append(' ').append(random.nextInt(40)).append(' ')
                .append(random.nextInt(101)).append(';');
        }
        for (int i = random.nextInt(32); i > 0; i--) {
            StringBuilder load = new StringBuilder("load");
            for (int m = random.nextInt(materials); m >= 0; m--) {
                load.append(' ').append(random.nextInt(random.nextBoolean() ? 999 : 40));
            }
            if (text.length() + load.length() < 699) {
                text.append(load).append(';');
            }
        }
        return text.toString();
    }

    /** As goodText(), but every number is the least or the greatest that is allowed there. */
    private String edgeText() {
        int materials = edge(1, 6);
        StringBuilder text = new StringBuilder("materials " + materials + ";");
        for (int i = edge(1, 8); i > 0; i--) {
            text.append("station ").append(edge(0, materials - 1)).append(' ').append(edge(0, 9)).append(' ').append(edge(1, 50))
                .append(' ').append(edge(0, 30)).append(';');
        }
        for (int what = 0; what < RANGES.length; what++) {
            if (random.nextBoolean()) {
                text.append("set ").append(what).append(' ').append(edge(RANGES[what][0], RANGES[what][1])).append(';');
            }
        }
        for (int i = edge(0, 4); i > 0; i--) {
            text.append("buyer ").append(i % 2 == 0 ? "ab" : "b").append(i > 2 ? "b " : " ").append(edge(0, materials - 1)).append(' ')
                .append(edge(0, 2)).append(' ').append(edge(1, 9999)).append(' ').append(edge(0, 100)).append(' ').append(edge(0, 100))
                .append(';');
        }
        for (int i = edge(0, 30); i > 0; i--) {
            StringBuilder load = new StringBuilder("load");
            for (int m = edge(1, materials); m > 0; m--) {
                load.append(' ').append(random.nextInt(3) == 0 ? edge(0, 999) : random.nextInt(100));
            }
            if (text.length() + load.length() < 700) {
                text.append(load).append(';');
            }
        }
        return text.toString();
    }

    private int edge(int least, int greatest) {
        int kind = random.nextInt(6);
        return kind < 2 ? least : kind < 4 ? greatest : least + random.nextInt(greatest - least + 1);
    }

    /** A good text in which something is taken out, doubled or put in. */
    private String brokenText() {
        String text = goodText();
        if (random.nextInt(8) == 0) {
            text = "materials 1;" + "load 1;".repeat(28 + random.nextInt(4)) + "buyer a 0 0 1 0 0;".repeat(random.nextInt(2))
                + "station 0 0 1 0;".repeat(random.nextInt(10)) + "buyer ab 0 0 1 0 0;buyer b 0 0 1 0 0;buyer c 0 0 1 0 0;";
        }
        for (int i = random.nextInt(3); i >= 0; i--) {
            int from = random.nextInt(text.length() + 1);
            int to = Math.min(text.length(), from + random.nextInt(6));
            String piece = random.nextInt(3) == 0 ? "" : PIECES[random.nextInt(PIECES.length)];
            text = text.substring(0, from) + piece + text.substring(random.nextInt(3) == 0 ? from : to);
        }
        return text.length() > 700 ? text.substring(0, 700) : text;
    }

    private void everything(String name) {
        for (int what = -1; what <= 12; what++) {
            int asked = what;
            same(name + " line", () -> real.line(asked), () -> model.line(asked));
            same(name + " balance", () -> real.balance(asked), () -> model.balance(asked));
            same(name + " setting", () -> real.setting(asked), () -> model.setting(asked));
            same(name + " purity", () -> real.purity(asked), () -> model.purity(asked));
            for (int i = -1; i <= 41; i++) {
                int one = i;
                same(name + " bale", () -> real.bale(one, asked), () -> model.bale(one, asked));
                if (i <= 9) {
                    same(name + " station", () -> real.station(one, asked), () -> model.station(one, asked));
                    same(name + " buyer", () -> real.buyer(one, asked), () -> model.buyer(one, asked));
                }
            }
        }
        for (int place = -1; place <= 48; place++) {
            for (int m = -1; m <= 6; m++) {
                int one = place;
                int material = m;
                same(name + " mass", () -> real.mass(one, material), () -> model.mass(one, material));
            }
        }
        same(name + " loss", () -> real.loss(), () -> model.loss());
    }

    private static void same(String name, Checks.Call real, Checks.Call model) {
        Checks.due(name, Checks.outcome(real), Checks.outcome(model));
    }
}
