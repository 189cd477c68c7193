import java.nio.charset.StandardCharsets;
import java.util.NoSuchElementException;
import java.util.function.IntSupplier;

/** What the tests by sentences share: nets told by texts, answers compared, all that can be seen of an object. */
final class Check {
    static final int NONE = ForestPacks.NONE;
    static final int THROWN = -77;
    /** Numbers that are wrong for whatever they stand. */
    static final int[] FAR = {-2, -1000, Integer.MIN_VALUE, Integer.MIN_VALUE + 1, 641, 1 << 16, 1 << 24, Integer.MAX_VALUE};

    private static String sentence = "";
    private static int sentences = 0;
    private static int wrong = 0;

    private Check() {
    }

    /** One sentence of the document, with a test of its own. */
    static void says(String words, Runnable test) {
        sentence = words;
        sentences++;
        try {
            test.run();
        } catch (RuntimeException e) {
            wrong++;
            System.out.println(sentence + ": threw " + e);
        }
    }

    static void end(String name) {
        System.out.println(name + ": " + sentences + " sentences, " + wrong + " wrong answers");
        if (wrong != 0) {
            System.exit(1);
        }
    }

    static void due(String what, Object want, Object got) {
        if (!want.equals(got)) {
            wrong++;
            System.out.println(sentence + ": " + what + ": answered " + got + ", due is " + want);
        }
    }

    static int thrown(IntSupplier call) {
        try {
            return call.getAsInt();
        } catch (NoSuchElementException e) {
            return THROWN;
        }
    }

    static void tape(ForestPacks x, String text) {
        byte[] all = text.getBytes(StandardCharsets.ISO_8859_1);
        int ahead = x.now(8);
        for (int i = 0; i < all.length; i += 20) {
            int[] five = new int[5];
            for (int j = 0; j < 20; j++) {
                five[j / 4] = five[j / 4] << 8 | (i + j < all.length ? all[i + j] & 255 : 0);
            }
            x.feed(five[0], five[1], five[2], five[3], five[4]);
        }
        x.end(ahead + all.length);
    }

    static void bytes(ForestPacks x, int... all) {
        StringBuilder text = new StringBuilder();
        for (int one : all) {
            text.append((char) one);
        }
        tape(x, text.toString());
    }

    static ForestPacks of(String text) {
        ForestPacks x = new ForestPacks();
        tell(x, text);
        return x;
    }

    static void tell(ForestPacks x, String text) {
        tape(x, text);
        x.net();
        due("fault of " + text, 0, x.fault());
    }

    /** Points a, b, c .. so many, then lines such as "ab" (weight 1) or "ab7" (weight 7), with blanks between. */
    static ForestPacks net(int k, int points, String lines) {
        return of(text(k, points, lines));
    }

    static String text(int k, int points, String lines) {
        StringBuilder text = new StringBuilder("forests " + k + ";");
        for (int p = 0; p < points; p++) {
            text.append("point ").append((char) ('a' + p)).append(';');
        }
        for (String line : lines.split(" ")) {
            if (!line.isEmpty()) {
                String weight = line.length() > 2 ? line.substring(2) : "1";
                text.append("line ").append(line.charAt(0)).append(' ').append(line.charAt(1)).append(' ');
                text.append(weight).append(';');
            }
        }
        return text.toString();
    }

    /** Puts lines into a forest. */
    static void into(ForestPacks x, int f, int... lines) {
        for (int l : lines) {
            due("put(" + l + ", " + f + ")", 0, x.put(l, f));
        }
    }

    static int set(int... parts) {
        int set = 0;
        for (int part : parts) {
            set |= 1 << part;
        }
        return set;
    }

    /** The net, and all that acts change in it. */
    static String netOf(ForestPacks x) {
        StringBuilder all = new StringBuilder();
        for (int what = 0; what < 7; what++) {
            all.append(x.now(what)).append(' ');
        }
        for (int l = 0; l < x.now(1); l++) {
            for (int what = 0; what < 5; what++) {
                all.append(x.line(l, what)).append(',');
            }
            all.append(' ');
        }
        for (int p = 0; p < x.now(0); p++) {
            all.append(x.load(p)).append(' ');
        }
        return all.toString();
    }

    /** What calls told last. */
    static String toldBy(ForestPacks x) {
        StringBuilder all = new StringBuilder();
        for (int i = 0; i < 25; i++) {
            all.append(x.chainAt(i, 0)).append(',').append(x.chainAt(i, 1)).append(',').append(x.keptAt(i)).append(' ');
        }
        return all.append(x.crowd()).append(' ').append(x.fault()).toString();
    }

    static String allOf(ForestPacks x) {
        return netOf(x) + "| " + x.now(7) + ' ' + x.now(8) + " | " + toldBy(x);
    }

    /** A call that does nothing: its answer, and that all is as it was. */
    static void idle(ForestPacks x, String call, int want, IntSupplier run) {
        String ahead = allOf(x);
        due(call, want, thrown(run));
        due("all behind " + call, ahead, allOf(x));
    }

    static void idle(ForestPacks x, String call, boolean want, IntSupplier run) {
        idle(x, call, want ? 1 : 0, run);
    }

    static int bit(boolean b) {
        return b ? 1 : 0;
    }

    /** An act: its answer, that it can be undone, and that the net is then as it was. */
    static void act(ForestPacks x, String call, int want, IntSupplier run) {
        String ahead = netOf(x);
        int acts = x.now(7);
        due(call, want, run.getAsInt());
        due("acts behind " + call, Math.min(8, acts + 1), x.now(7));
        due("changed by " + call, true, !ahead.equals(netOf(x)));
        String behind = netOf(x);
        due("undo of " + call, Math.min(7, acts), x.undo());
        due("net behind the undo of " + call, ahead, netOf(x));
        due(call + " again", want, run.getAsInt());
        due("net behind " + call + " again", behind, netOf(x));
    }
}
