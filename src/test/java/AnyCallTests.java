import java.util.NoSuchElementException;
import java.util.Random;

/** Any calls with any numbers: none throws but as the document says, and what holds for every net holds. */
public final class AnyCallTests {
    private static final int RUNS = 150;
    private static final int CALLS = 512;
    private static final int[] EDGES = {-2, -1, 0, 1, 2, 3, 4, 5, 6, 9, 10, 11, 23, 24, 25, 31, 32, 33, 60, 61, 63, 64, 98, 99,
        100, 599, 600, 601, 639, 640, 641, 1023, 1024, Integer.MAX_VALUE - 1, Integer.MAX_VALUE, Integer.MIN_VALUE,
        Integer.MIN_VALUE + 1};
    private static final String[] NETS = {"", "point a;", "point a;point b;", "forests 1;", "forests 5;point a;?",
        Check.text(5, 2, "ab ".repeat(24)), Check.text(3, 10, "ab bc cd de ef fg gh hi ij ja ab bc cd de ef fg gh hi ij ja ac bd ce df"),
        Check.text(2, 4, "ab3 bc9 cd ad ac bd ab99 cb cd"), Check.text(4, 3, "ab bc ca ab bc ca ab bc ca ab bc ca ab bc ca"),
        Check.text(1, 6, "ab cd ef ac bd"), " ".repeat(601)};

    private final Random random;
    private final ForestPacks x = new ForestPacks();

    private AnyCallTests(int run) {
        random = new Random(run);
    }

    public static void main(String[] args) {
        Check.says("any calls: no other exception, and every answer within its bounds", () -> {
            for (int run = 0; run < RUNS; run++) {
                new AnyCallTests(run).play();
            }
        });
        Check.end("any calls");
    }

    private void play() {
        for (int i = 0; i < CALLS; i++) {
            if (random.nextInt(40) == 0) {
                x.end(0);
                Check.tape(x, NETS[random.nextInt(NETS.length)]);
                x.net();
            }
            call();
            if (i % 16 == 0) {
                holds();
            }
        }
    }

    private int any() {
        return switch (random.nextInt(8)) {
            case 0 -> EDGES[random.nextInt(EDGES.length)];
            case 1 -> random.nextInt();
            case 2, 3 -> random.nextInt(25);
            default -> random.nextInt(6);
        };
    }

    private void call() {
        int a = any();
        int b = any();
        int kind = random.nextInt(43);
        switch (kind) {
            case 0 -> x.feed(a, b, any(), any(), any());
            case 1 -> x.end(a);
            case 2 -> x.net();
            case 3 -> x.fault();
            case 4 -> x.forests(a);
            case 5 -> may(() -> x.line(a, b), -1, 99);
            case 6 -> may(() -> x.ring(a, b), 0, (1 << 24) - 1);
            case 7 -> within(x.forest(a), -1, (1 << 24) - 1);
            case 8 -> within(x.now(a), -1, 640);
            case 9 -> within(x.put(a, b), -1, 3);
            case 10 -> within(x.lift(a), -1, 4);
            case 11 -> within(x.place(a), -1, 24);
            case 12 -> within(x.chain(a), -1, 24);
            case 13 -> within(x.chainAt(a, b), -1, 23);
            case 14 -> within(x.crowd(), 0, 1023);
            case 15 -> within(x.pack(), 0, 24);
            case 16 -> within(x.trade(a, b), -1, 23);
            case 17 -> within(x.breaks(a), -1, 1);
            case 18 -> within(x.mend(a), -1, 1);
            case 19 -> within(x.weigh(a, b), -1, 1);
            case 20 -> within(x.turn(a), -1, 9);
            case 21 -> within(x.load(a), -1, 24);
            case 22 -> within(x.ease(), 0, 9);
            default -> more(kind, a, b);
        }
    }

    private void more(int kind, int a, int b) {
        switch (kind) {
            case 23 -> within(x.game(), -1, 9);
            case 24 -> within(x.keptAt(a), -1, 23);
            case 25 -> within(x.undo(), -1, 7);
            case 26 -> within(x.most(a), -1, 24);
            case 27 -> within(x.fewest(), 0, 24);
            case 28 -> within(x.trees(), -1, 24);
            case 29 -> within(x.thick(a), -1, 1023);
            case 30 -> within(x.crowded(a), -1, 1023);
            case 31 -> within(x.strength(a), -1, 24);
            case 32 -> within(x.even(), 0, 12);
            case 33 -> within(x.rooted(a), -1, 24);
            case 34 -> within(x.outTree(a, b), -1, (1 << 24) - 1);
            case 35 -> within(x.vital(), 0, (1 << 24) - 1);
            case 36 -> within(x.layers(), 0, 9);
            case 37 -> within(x.layerAt(a, b), -1, 1023);
            case 38 -> within(x.light(a, b), -1, (1 << 24) - 1);
            case 39 -> within(x.drawn(a, b), -1, 60);
            case 40 -> x.image(a);
            case 41 -> x.restore(a);
            default -> within(x.drawn(1 + (a & 31), b), 0, 60);
        }
    }

    private void may(java.util.function.IntSupplier call, int least, int most) {
        try {
            within(call.getAsInt(), least, most);
        } catch (NoSuchElementException e) {
            // as the document says
        }
    }

    private static void within(int answer, int least, int most) {
        Check.due("an answer of " + least + " to " + most, true, answer >= least && answer <= most);
    }

    /** Forests have no line in common, no broken line, and never more lines than points less 1. */
    private void holds() {
        int all = 0;
        for (int f = 0; f < x.now(2); f++) {
            int set = x.forest(f);
            Check.due("in common", 0, all & set);
            all |= set;
            Check.due("not more than points less 1", true, set == 0 || Integer.bitCount(set) < x.now(0));
        }
        Check.due("lines in forests", Integer.bitCount(all), x.now(4));
        Check.due("forest 0 goes round nowhere", x.now(0) - Integer.bitCount(x.forest(0)), x.now(6));
        int loads = 0;
        for (int p = 0; p < x.now(0); p++) {
            loads += x.load(p);
        }
        Check.due("loads", x.now(3), loads);
        for (int l = 0; l < x.now(1); l++) {
            Check.due("broken ones lie in none", true, x.line(l, 4) == 0 || x.line(l, 3) == ForestPacks.NONE);
        }
    }
}
