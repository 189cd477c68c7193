import java.nio.charset.StandardCharsets;
import java.util.ArrayDeque;
import java.util.ArrayList;
import java.util.Arrays;
import java.util.Deque;
import java.util.HashMap;
import java.util.List;
import java.util.Map;
import java.util.NoSuchElementException;
import java.util.Random;
import java.util.TreeSet;
import java.util.function.Supplier;
import java.util.regex.Matcher;
import java.util.regex.Pattern;

/** Random runs of calls on the class and on a slow model that follows the document's words by other ways. */
public final class ModelTests {
    private static final int RUNS = 300;
    private static final int CALLS = 150;
    private static int wrong = 0;
    private static final Map<String, Integer> counted = new HashMap<>();

    private final Random random;
    private final int run;
    private final ForestPacks real = new ForestPacks();
    private final Model model = new Model();
    private final List<String> calls = new ArrayList<>();

    private ModelTests(int run) {
        this.run = run;
        this.random = new Random(1000L + run);
    }

    public static void main(String[] args) {
        for (int run = 0; run < RUNS && wrong == 0; run++) {
            new ModelTests(run).play();
        }
        for (String name : Model.ANSWERED) {
            if (counted.getOrDefault(name, 0) < 20) {
                wrong++;
                System.out.println("too seldom in these runs: " + name);
            }
        }
        System.out.println(wrong == 0 ? "model: all answers are alike" : "model: " + wrong + " answers differ");
        if (wrong != 0) {
            System.exit(1);
        }
    }

    private void play() {
        tellNet();
        for (int i = 0; i < CALLS && wrong == 0; i++) {
            step();
        }
    }

    private void same(String call, Supplier<Object> left, Supplier<Object> right) {
        calls.add(call);
        Object got = answer(left);
        Object due = answer(right);
        String name = call.substring(0, call.indexOf('('));
        if (due.equals(true) || due instanceof Integer && (Integer) due > 0) {
            counted.merge(name, 1, Integer::sum);
        }
        if (!got.equals(due)) {
            wrong++;
            System.out.println("run " + run + ": " + call + " answered " + got + ", the model " + due);
            System.out.println(String.join("\n", calls.subList(Math.max(0, calls.size() - 60), calls.size())));
        }
    }

    private static Object answer(Supplier<Object> call) {
        try {
            return call.get();
        } catch (NoSuchElementException e) {
            return "NoSuchElementException";
        }
    }

    private int some(int below) {
        return random.nextInt(below);
    }

    private int line() {
        int l = model.lines();
        return l > 0 && some(30) != 0 ? some(l) : some(27) - 1;
    }

    private int place() {
        int p = model.points;
        return p > 0 && some(30) != 0 ? some(p) : some(13) - 1;
    }

    private int wood() {
        return some(30) != 0 ? some(model.k) : some(8) - 1;
    }

    private void feedBytes(byte[] bytes) {
        int ahead = model.tape.size();
        for (int i = 0; i < bytes.length; i += 20) {
            int[] four = new int[5];
            for (int j = 0; j < 20; j++) {
                int sign = i + j < bytes.length ? bytes[i + j] & 255 : some(256);
                four[j / 4] = four[j / 4] << 8 | sign;
            }
            same("feed(" + Arrays.toString(four) + ")", () -> real.feed(four[0], four[1], four[2], four[3], four[4]),
                    () -> model.feed(four));
        }
        int n = ahead + bytes.length;
        same("end(" + n + ")", () -> real.end(n), () -> model.end(n));
    }

    private void tellNet() {
        same("end(0)", () -> real.end(0), () -> model.end(0));
        String text = netText();
        if (some(4) == 0) {
            text = spoil(text);
        }
        calls.add("text " + text.replace("\n", "\\n"));
        feedBytes(text.getBytes(StandardCharsets.ISO_8859_1));
        same("net()", real::net, model::net);
        same("fault()", real::fault, () -> model.fault);
    }

    private String blank() {
        return some(20) == 0 ? " \n " : some(10) == 0 ? "\n" : " ";
    }

    private String netText() {
        int points = some(6) == 0 ? some(3) : 2 + some(9);
        int lines = points < 2 ? 0 : some(4) == 0 ? 24 : some(25);
        StringBuilder text = new StringBuilder();
        int told = some(3);
        if (told == 0) {
            text.append("forests").append(blank()).append(1 + some(5)).append(';');
        }
        String letters = some(2) == 0 ? "abcdefghij" : "jihgfedcba";
        for (int p = 0; p < points; p++) {
            text.append("point").append(blank()).append(letters.charAt(p)).append(';');
        }
        int near = 2 + some(9);
        for (int l = 0; l < lines; l++) {
            int a = some(points);
            int b = (a + 1 + some(Math.min(near, points - 1))) % points;
            String gap = some(30) == 0 ? blank() : " ";
            text.append("line ").append(letters.charAt(a)).append(gap).append(letters.charAt(b)).append(' ');
            text.append(1 + some(some(2) == 0 ? 5 : 99)).append(';');
        }
        if (told == 1) {
            text.append("forests").append(blank()).append(1 + some(5)).append(" ;");
        }
        return text.toString();
    }

    private static final String[] BITS = {"point", "line", "forests", ";", " ", "\n", "a", "b", "j", "0", "5", "00", "99",
        "100", "6", "abcdefg", "abcdefgh", "A", "\u00e9", "a1", "1a", "", "point a;", "line a b 3;", "forests 2;", "point k;",
        "point ab;", "                                                        "};

    private String spoil(String text) {
        StringBuilder out = new StringBuilder(text);
        int times = 1 + some(3);
        for (int i = 0; i < times; i++) {
            int at = some(out.length() + 1);
            int to = Math.min(out.length(), at + some(4));
            String bit = BITS[some(BITS.length)];
            if (some(4) == 0) {
                bit = " ".repeat(Math.max(0, 590 + some(20) - out.length()));
            }
            out.replace(at, to, bit);
        }
        if (some(6) == 0) {
            out.setLength(some(out.length() + 1));
        }
        if (out.length() > 640) {
            out.setLength(640);
        }
        return out.toString();
    }

    private void tellGame() {
        byte[] bytes = new byte[some(12)];
        for (int i = 0; i < bytes.length; i++) {
            bytes[i] = (byte) (some(20) == 0 ? some(256) : some(Math.max(1, model.lines())));
        }
        int zero = model.forest(0);
        for (int i = 0; i < bytes.length && zero > 0 && some(2) == 0; i++) {
            int both = zero | Math.max(0, model.forest(1));
            int pick = some(24);
            for (int j = 0; j < 24; j++) {
                if ((both >> (pick + j) % 24 & 1) != 0) {
                    bytes[i] = (byte) ((pick + j) % 24);
                    break;
                }
            }
        }
        same("end(0)", () -> real.end(0), () -> model.end(0));
        if (bytes.length > 0) {
            feedBytes(bytes);
        }
        same("game()", real::game, model::game);
        for (int i = -1; i < 10; i++) {
            int at = i;
            same("keptAt(" + at + ")", () -> real.keptAt(at), () -> model.keptAt(at));
        }
    }

    private void step() {
        int what = some(100);
        if (what < 45) {
            act();
        } else if (what < 90) {
            ask();
        } else if (what < 93) {
            tellGame();
        } else if (what < 94) {
            tellNet();
        } else {
            keep();
        }
        checkAll();
    }

    private void act() {
        int l = line();
        int f = wood();
        switch (some(16)) {
            case 0, 1 -> same("put(" + l + "," + f + ")", () -> real.put(l, f), () -> model.put(l, f));
            case 2 -> same("lift(" + l + ")", () -> real.lift(l), () -> model.lift(l));
            case 3, 4, 5 -> same("place(" + l + ")", () -> real.place(l), () -> model.place(l));
            case 6 -> same("chain(" + l + ")", () -> real.chain(l), () -> model.chain(l));
            case 7, 8 -> same("pack()", real::pack, model::pack);
            case 9 -> same("trade(" + l + "," + f + ")", () -> real.trade(l, f), () -> model.trade(l, f));
            case 10 -> same("breaks(" + l + ")", () -> real.breaks(l), () -> model.breaks(l));
            case 11 -> same("mend(" + l + ")", () -> real.mend(l), () -> model.mend(l));
            case 12 -> {
                int w = some(10) == 0 ? some(102) - 1 : 1 + some(5);
                same("weigh(" + l + "," + w + ")", () -> real.weigh(l, w), () -> model.weigh(l, w));
            }
            case 13 -> same("turn(" + l + ")", () -> real.turn(l), () -> model.turn(l));
            case 14 -> same("ease()", real::ease, model::ease);
            default -> {
                int n = some(10) == 0 ? some(64) - 1 : 1 + some(60);
                int seed = random.nextInt();
                same("drawn(" + n + "," + seed + ")", () -> real.drawn(n, seed), () -> model.drawn(n, seed));
            }
        }
    }

    private void keep() {
        int k = some(12) == 0 ? some(5) - 1 : some(2);
        int n = some(8) - 1;
        switch (some(8)) {
            case 0 -> same("image(" + k + ")", () -> real.image(k), () -> model.image(k));
            case 1 -> same("restore(" + k + ")", () -> real.restore(k), () -> model.restore(k));
            case 2 -> same("forests(" + n + ")", () -> real.forests(n), () -> model.forests(n));
            case 3 -> {
                int many = some(12);
                for (int i = 0; i < many; i++) {
                    same("undo()", real::undo, model::undo);
                    checkAll();
                }
            }
            default -> same("undo()", real::undo, model::undo);
        }
    }

    private void ask() {
        int k = some(10) == 0 ? some(27) - 1 : some(5);
        int what = some(10) == 0 ? some(6) - 1 : some(3);
        int p = place();
        int i = some(6) - 1;
        switch (some(18)) {
            case 0 -> same("most(" + k + ")", () -> real.most(k), () -> model.most(k));
            case 1 -> same("fewest()", real::fewest, model::fewest);
            case 2 -> same("trees()", real::trees, model::trees);
            case 3 -> same("thick(" + what + ")", () -> real.thick(what), () -> model.thick(what));
            case 4 -> same("crowded(" + k + ")", () -> real.crowded(k), () -> model.crowded(k));
            case 5 -> same("strength(" + what + ")", () -> real.strength(what), () -> model.strength(what));
            case 6 -> same("even()", real::even, model::even);
            case 7 -> same("rooted(" + p + ")", () -> real.rooted(p), () -> model.rooted(p));
            case 8, 9 -> same("outTree(" + p + "," + i + ")", () -> real.outTree(p, i), () -> model.outTree(p, i));
            case 10 -> same("vital()", real::vital, model::vital);
            case 11 -> same("layers()", real::layers, () -> model.layerList().size());
            case 12, 13 -> same("layerAt(" + i + "," + what + ")", () -> real.layerAt(i, what), () -> model.layerAt(i, what));
            case 14 -> same("light(" + k + "," + what + ")", () -> real.light(k, what), () -> model.light(k, what));
            case 15 -> same("load(" + p + ")", () -> real.load(p), () -> model.load(p));
            case 16 -> {
                int l = line();
                int f = wood();
                same("ring(" + l + "," + f + ")", () -> real.ring(l, f), () -> model.ring(l, f));
            }
            default -> {
                int place = some(30) - 2;
                same("chainAt(" + place + "," + what + ")", () -> real.chainAt(place, what), () -> model.chainAt(place, what));
            }
        }
    }

    private void checkAll() {
        for (int what = -1; what <= 9; what++) {
            int w = what;
            same("now(" + w + ")", () -> real.now(w), () -> model.now(w));
        }
        for (int f = -1; f <= 5; f++) {
            int w = f;
            same("forest(" + w + ")", () -> real.forest(w), () -> model.forest(w));
        }
        for (int l = -1; l <= model.lines(); l++) {
            for (int what = -1; what <= 5; what++) {
                int at = l;
                int w = what;
                same("line(" + at + "," + w + ")", () -> real.line(at, w), () -> model.line(at, w));
            }
        }
        for (int i = 0; i < 3; i++) {
            int at = i;
            same("chainAt(" + at + ",0)", () -> real.chainAt(at, 0), () -> model.chainAt(at, 0));
            same("chainAt(" + at + ",1)", () -> real.chainAt(at, 1), () -> model.chainAt(at, 1));
        }
        same("crowd()", real::crowd, () -> model.crowd);
        for (int p = 0; p < model.points; p++) {
            int at = p;
            same("load(" + at + ")", () -> real.load(at), () -> model.load(at));
        }
    }

    private record Fraction(int above, int below) {
        Fraction {
            int a = above;
            int b = below;
            while (b != 0) {
                int c = a % b;
                a = b;
                b = c;
            }
            above /= a;
            below /= a;
        }

        int compare(Fraction other) {
            return Integer.compare(above * other.below, other.above * below);
        }

        int part(int what) {
            return what == 0 ? above : below;
        }
    }

    private record Layer(Fraction fraction, int set) { }

    private static final class Line {
        int a;
        int b;
        int weight;
        int home = -1;
        boolean broken;
        boolean turned;

        Line(int a, int b, int weight) {
            this.a = a;
            this.b = b;
            this.weight = weight;
        }

        Line copy() {
            Line line = new Line(a, b, weight);
            line.home = home;
            line.broken = broken;
            line.turned = turned;
            return line;
        }

        int tail() {
            return turned ? b : a;
        }

        int head() {
            return turned ? a : b;
        }
    }

    private record Kept(int points, int k, List<Line> net) { }

    private static final class Model {
        static final String[] ANSWERED = {"feed", "end", "net", "fault", "forests", "line", "ring", "forest", "now", "put",
            "lift", "place", "chain", "chainAt", "crowd", "pack", "trade", "breaks", "mend", "weigh", "turn", "load", "ease",
            "game", "keptAt", "undo", "most", "fewest", "trees", "thick", "crowded", "strength", "even", "rooted", "outTree",
            "vital", "layers", "layerAt", "light", "drawn", "image", "restore"};

        List<Integer> tape = new ArrayList<>();
        int points = 0;
        int k = 2;
        int fault = 0;
        List<Line> net = new ArrayList<>();
        Deque<Kept> acts = new ArrayDeque<>();
        Kept[] images = new Kept[2];
        List<int[]> chain = new ArrayList<>();
        int crowd = 0;
        List<Integer> kept = new ArrayList<>();

        int lines() {
            return net.size();
        }

        Kept snapshot() {
            List<Line> copy = new ArrayList<>();
            net.forEach(line -> copy.add(line.copy()));
            return new Kept(points, k, copy);
        }

        void backTo(Kept old) {
            points = old.points();
            k = old.k();
            net = new ArrayList<>();
            old.net().forEach(line -> net.add(line.copy()));
        }

        void did(Kept old) {
            acts.push(old);
            while (acts.size() > 8) {
                acts.removeLast();
            }
        }

        int feed(int[] four) {
            if (tape.size() + 20 > 640) {
                return -1;
            }
            for (int number : four) {
                for (int shift = 24; shift >= 0; shift -= 8) {
                    tape.add(number >>> shift & 255);
                }
            }
            return tape.size();
        }

        boolean end(int n) {
            if (n < 0 || n > tape.size()) {
                return false;
            }
            tape = new ArrayList<>(tape.subList(0, n));
            return true;
        }

        static final class Wrong extends Exception {
            private static final long serialVersionUID = 1L;
            final int kind;
            final int place;

            Wrong(int kind, int place) {
                this.kind = kind;
                this.place = place;
            }
        }

        private static final Pattern RUN = Pattern.compile("[a-z0-9]+|;|[\\x00-\\xff]", Pattern.DOTALL);
        private String text;
        private List<String> tokens;
        private List<Integer> places;
        private int next;

        private void cutTokens() {
            StringBuilder all = new StringBuilder();
            tape.forEach(sign -> all.append((char) (int) sign));
            text = all.toString();
            tokens = new ArrayList<>();
            places = new ArrayList<>();
            Matcher matcher = RUN.matcher(text);
            while (matcher.find() && matcher.start() < 600) {
                if (!matcher.group().equals(" ") && !matcher.group().equals("\n")) {
                    tokens.add(matcher.group());
                    places.add(matcher.start());
                }
            }
            next = 0;
        }

        private int place() {
            return next < places.size() ? places.get(next) : Math.min(600, text.length());
        }

        private String take(String shape) throws Wrong {
            if (next >= tokens.size() || !tokens.get(next).matches(shape)) {
                throw new Wrong(1, place());
            }
            return tokens.get(next);
        }

        int net() {
            cutTokens();
            tape = new ArrayList<>();
            List<String> names = new ArrayList<>();
            List<Line> told = new ArrayList<>();
            int[] forests = {0};
            int rows = 0;
            try {
                while (next < tokens.size()) {
                    row(names, told, forests);
                    take(";");
                    next++;
                    rows++;
                }
                if (text.length() > 600) {
                    throw new Wrong(1, 600);
                }
            } catch (Wrong wrong) {
                fault = wrong.kind;
                return -1 - wrong.place;
            }
            fault = 0;
            points = names.size();
            net = told;
            k = forests[0] == 0 ? 2 : forests[0];
            acts.clear();
            return rows;
        }

        private void row(List<String> names, List<Line> told, int[] forests) throws Wrong {
            String first = take("point|line|forests");
            boolean full = first.equals("point") && names.size() == 10 || first.equals("line") && told.size() == 24;
            if (full) {
                throw new Wrong(4, place());
            }
            if (first.equals("forests") && forests[0] != 0) {
                throw new Wrong(3, place());
            }
            next++;
            if (first.equals("forests")) {
                forests[0] = number(5);
            } else if (first.equals("point")) {
                String name = name();
                if (names.contains(name)) {
                    throw new Wrong(3, place());
                }
                names.add(name);
                next++;
            } else {
                int a = known(names, -1);
                int b = known(names, a);
                told.add(new Line(a, b, number(99)));
            }
        }

        private String name() throws Wrong {
            return take("(?!(point|line|forests)$)[a-z]{1,7}");
        }

        private int known(List<String> names, int other) throws Wrong {
            int p = names.indexOf(name());
            if (p < 0 || p == other) {
                throw new Wrong(3, place());
            }
            next++;
            return p;
        }

        private int number(int greatest) throws Wrong {
            int value = Integer.parseInt(take("[0-9]{1,2}"));
            if (value < 1 || value > greatest) {
                throw new Wrong(2, place());
            }
            next++;
            return value;
        }

        int forests(int n) {
            if (n < 1 || n > 5 || n == k) {
                return -1;
            }
            did(snapshot());
            int lifted = 0;
            for (Line line : net) {
                if (line.home >= n) {
                    line.home = -1;
                    lifted++;
                }
            }
            k = n;
            return lifted;
        }

        boolean no(int l) {
            return l < 0 || l >= net.size();
        }

        boolean noForest(int f) {
            return f < 0 || f >= k;
        }

        boolean noPoint(int p) {
            return p < 0 || p >= points;
        }

        int line(int l, int what) {
            if (no(l) || what < 0 || what > 4) {
                throw new NoSuchElementException();
            }
            Line line = net.get(l);
            int[] all = {line.a, line.b, line.weight, line.home, line.broken ? 1 : 0};
            return all[what];
        }

        int ring(int l, int f) {
            if (no(l) || noForest(f) || net.get(l).broken || net.get(l).home == f) {
                throw new NoSuchElementException();
            }
            return way(net.get(l).a, net.get(l).b, forest(f));
        }

        /** The lines of a set on the way, by trying all. */
        int way(int from, int to, int set) {
            if (from == to) {
                return 0;
            }
            for (int l = 0; l < net.size(); l++) {
                if ((set >> l & 1) == 0) {
                    continue;
                }
                Line line = net.get(l);
                if (line.a != from && line.b != from) {
                    continue;
                }
                int other = line.a == from ? line.b : line.a;
                int rest = set & ~(1 << l);
                int more = way(other, to, rest);
                if (other == to || more != 0) {
                    return more | 1 << l;
                }
            }
            return 0;
        }

        int forest(int f) {
            if (noForest(f)) {
                return -1;
            }
            int set = 0;
            for (int l = 0; l < net.size(); l++) {
                set |= net.get(l).home == f ? 1 << l : 0;
            }
            return set;
        }

        int sound() {
            int set = 0;
            for (int l = 0; l < net.size(); l++) {
                set |= net.get(l).broken ? 0 : 1 << l;
            }
            return set;
        }

        /** For each point the least one with which lines of a set join it. */
        int[] joined(int set) {
            int[] as = new int[points];
            for (int p = 0; p < points; p++) {
                as[p] = p;
            }
            for (int l = 0; l < net.size(); l++) {
                if ((set >> l & 1) != 0) {
                    int x = as[net.get(l).a];
                    int y = as[net.get(l).b];
                    for (int p = 0; p < points; p++) {
                        if (as[p] == x || as[p] == y) {
                            as[p] = Math.min(x, y);
                        }
                    }
                }
            }
            return as;
        }

        int pieces(int set) {
            return (int) Arrays.stream(joined(set)).distinct().count();
        }

        boolean round(int set) {
            return pieces(set) != points - Integer.bitCount(set);
        }

        int now(int what) {
            int in = (int) net.stream().filter(line -> line.home >= 0).count();
            return switch (what) {
                case 0 -> points;
                case 1 -> net.size();
                case 2 -> k;
                case 3 -> Integer.bitCount(sound());
                case 4 -> in;
                case 5 -> pieces(sound());
                case 6 -> pieces(forest(0));
                case 7 -> acts.size();
                case 8 -> tape.size();
                default -> -1;
            };
        }

        int why(int l, int f) {
            Line line = net.get(l);
            return line.broken ? 1 : line.home >= 0 ? 2 : round(forest(f) | 1 << l) ? 3 : 0;
        }

        int put(int l, int f) {
            if (no(l) || noForest(f)) {
                return -1;
            }
            int why = why(l, f);
            if (why == 0) {
                did(snapshot());
                net.get(l).home = f;
            }
            return why;
        }

        int lift(int l) {
            if (no(l) || net.get(l).home < 0) {
                return -1;
            }
            did(snapshot());
            int lay = net.get(l).home;
            net.get(l).home = -1;
            return lay;
        }

        boolean waits(int l) {
            return !no(l) && !net.get(l).broken && net.get(l).home < 0;
        }

        TreeSet<Integer> next(int l) {
            TreeSet<Integer> all = new TreeSet<>();
            for (int f = 0; f < k; f++) {
                if (net.get(l).home != f) {
                    int ring = way(net.get(l).a, net.get(l).b, forest(f));
                    for (int x = 0; x < net.size(); x++) {
                        if ((ring >> x & 1) != 0) {
                            all.add(x);
                        }
                    }
                }
            }
            return all;
        }

        int free(int l) {
            for (int f = 0; f < k; f++) {
                if (net.get(l).home != f && !round(forest(f) | 1 << l)) {
                    return f;
                }
            }
            return -1;
        }

        /** By how far each line is from one with a free forest: the least line that comes nearer is next. */
        List<int[]> chainOf(int l) {
            int far = 1000;
            int[] away = new int[net.size()];
            List<TreeSet<Integer>> onRings = new ArrayList<>();
            for (int x = 0; x < net.size(); x++) {
                boolean part = x == l || net.get(x).home >= 0;
                onRings.add(part ? next(x) : new TreeSet<>());
                away[x] = part && free(x) >= 0 ? 0 : far;
            }
            for (int round = 0; round < net.size(); round++) {
                for (int x = 0; x < net.size(); x++) {
                    for (int y : onRings.get(x)) {
                        away[x] = Math.min(away[x], away[y] + 1);
                    }
                }
            }
            List<int[]> steps = new ArrayList<>();
            if (away[l] >= far) {
                return steps;
            }
            int x = l;
            while (away[x] > 0) {
                for (int y : onRings.get(x)) {
                    if (away[y] == away[x] - 1) {
                        steps.add(new int[] {x, net.get(y).home});
                        x = y;
                        break;
                    }
                }
            }
            steps.add(new int[] {x, free(x)});
            return steps;
        }

        int crowdOf(int l) {
            TreeSet<Integer> all = new TreeSet<>();
            all.add(l);
            for (int round = 0; round < net.size(); round++) {
                for (int x : new ArrayList<>(all)) {
                    all.addAll(next(x));
                }
            }
            int set = 0;
            for (int x : all) {
                set |= 1 << net.get(x).a | 1 << net.get(x).b;
            }
            return set;
        }

        int chain(int l) {
            if (!waits(l)) {
                return -1;
            }
            List<int[]> steps = chainOf(l);
            if (steps.isEmpty()) {
                crowd = crowdOf(l);
            } else {
                chain = steps;
            }
            return steps.size();
        }

        void carry(List<int[]> steps) {
            steps.forEach(step -> net.get(step[0]).home = step[1]);
            for (int f = 0; f < k; f++) {
                if (round(forest(f))) {
                    throw new IllegalStateException("lines go round in forest " + f);
                }
            }
        }

        int place(int l) {
            int length = chain(l);
            if (length > 0) {
                did(snapshot());
                carry(chain);
            }
            return length;
        }

        int chainAt(int i, int what) {
            return i < 0 || i >= chain.size() || what < 0 || what > 1 ? -1 : chain.get(i)[what];
        }

        int packAll() {
            int placed = 0;
            for (int l = 0; l < net.size(); l++) {
                if (waits(l)) {
                    List<int[]> steps = chainOf(l);
                    carry(steps);
                    placed += steps.isEmpty() ? 0 : 1;
                }
            }
            return placed;
        }

        int pack() {
            Kept old = snapshot();
            int placed = packAll();
            if (placed > 0) {
                did(old);
            }
            return placed;
        }

        int tradeWith(int l, int f) {
            int own = net.get(l).home;
            if (own < 0 || own == f) {
                return -1;
            }
            int mine = forest(own);
            int other = forest(f);
            if (Integer.bitCount(mine) != points - 1 || Integer.bitCount(other) != points - 1) {
                return -1;
            }
            for (int m = 0; m < net.size(); m++) {
                boolean there = (other >> m & 1) != 0;
                if (there && !round(mine ^ 1 << l | 1 << m) && !round(other ^ 1 << m | 1 << l)) {
                    return m;
                }
            }
            throw new IllegalStateException("no line to trade");
        }

        int trade(int l, int f) {
            if (no(l) || noForest(f)) {
                return -1;
            }
            int m = tradeWith(l, f);
            if (m >= 0) {
                did(snapshot());
                net.get(m).home = net.get(l).home;
                net.get(l).home = f;
            }
            return m;
        }

        int breaks(int l) {
            if (no(l)) {
                return -1;
            }
            if (net.get(l).broken) {
                return 1;
            }
            did(snapshot());
            net.get(l).broken = true;
            net.get(l).home = -1;
            return 0;
        }

        int mend(int l) {
            if (no(l)) {
                return -1;
            }
            if (!net.get(l).broken) {
                return 1;
            }
            did(snapshot());
            net.get(l).broken = false;
            return 0;
        }

        int weigh(int l, int w) {
            if (no(l) || w < 1 || w > 99) {
                return -1;
            }
            if (net.get(l).weight == w) {
                return 1;
            }
            did(snapshot());
            net.get(l).weight = w;
            return 0;
        }

        int turn(int l) {
            if (no(l)) {
                return -1;
            }
            did(snapshot());
            net.get(l).turned = !net.get(l).turned;
            return net.get(l).tail();
        }

        int load(int p) {
            return noPoint(p) ? -1 : (int) net.stream().filter(line -> !line.broken && line.tail() == p).count();
        }

        int ease() {
            int from = 0;
            for (int p = 1; p < points; p++) {
                from = load(p) > load(from) ? p : from;
            }
            int far = 1000;
            int[] away = new int[points + 1];
            for (int p = 0; p < points; p++) {
                away[p] = load(p) <= load(from) - 2 ? 0 : far;
            }
            for (int round = 0; round < points; round++) {
                for (Line line : net) {
                    if (!line.broken) {
                        away[line.tail()] = Math.min(away[line.tail()], away[line.head()] + 1);
                    }
                }
            }
            if (points == 0 || away[from] >= far) {
                return 0;
            }
            did(snapshot());
            int length = away[from];
            List<Line> ways = new ArrayList<>();
            int at = from;
            while (away[at] > 0) {
                for (Line line : net) {
                    if (!line.broken && line.tail() == at && away[line.head()] == away[at] - 1) {
                        ways.add(line);
                        at = line.head();
                        break;
                    }
                }
            }
            ways.forEach(line -> line.turned = !line.turned);
            return length;
        }

        int game() {
            List<Integer> bytes = tape;
            tape = new ArrayList<>();
            if (points < 2 || k < 2 || pieces(forest(0)) != 1 || pieces(forest(1)) != 1) {
                return -1;
            }
            kept = new ArrayList<>();
            List<TreeSet<Integer>> left = List.of(new TreeSet<>(), new TreeSet<>());
            for (int l = 0; l < net.size(); l++) {
                if (net.get(l).home == 0 || net.get(l).home == 1) {
                    left.get(net.get(l).home).add(l);
                }
            }
            int saved = 0;
            for (int sign : bytes) {
                int one = left.get(0).contains(sign) ? 0 : 1;
                if (!left.get(one).remove(sign)) {
                    break;
                }
                int set = saved;
                for (int x : left.get(one)) {
                    set |= 1 << x;
                }
                int[] as = joined(set);
                int answer = -1;
                for (int x : left.get(1 - one)) {
                    if (as[net.get(x).a] != as[net.get(x).b]) {
                        answer = x;
                        break;
                    }
                }
                left.get(1 - one).remove(answer);
                saved |= 1 << answer;
                kept.add(answer);
            }
            return kept.size();
        }

        int keptAt(int i) {
            return i < 0 || i >= kept.size() ? -1 : kept.get(i);
        }

        int undo() {
            if (acts.isEmpty()) {
                return -1;
            }
            backTo(acts.pop());
            return acts.size();
        }

        /** A model of the lines of a set alone, packed by chains into so many forests. */
        int mostOf(int set, int forests) {
            if (forests == 0) {
                return 0;
            }
            Model other = new Model();
            other.points = points;
            other.k = forests;
            for (int l = 0; l < net.size(); l++) {
                if ((set >> l & 1) != 0) {
                    other.net.add(new Line(net.get(l).a, net.get(l).b, 1));
                }
            }
            return other.packAll();
        }

        int most(int n) {
            return n < 0 || n > 24 ? -1 : mostOf(sound(), n);
        }

        int fewest() {
            int n = 0;
            while (most(n) < Integer.bitCount(sound())) {
                n++;
            }
            return n;
        }

        int trees() {
            if (points < 2) {
                return -1;
            }
            int n = 24;
            while (most(n) != n * (points - 1)) {
                n--;
            }
            return n;
        }

        int inner(int set) {
            int count = 0;
            for (Line line : net) {
                count += !line.broken && (set >> line.a & 1) != 0 && (set >> line.b & 1) != 0 ? 1 : 0;
            }
            return count;
        }

        int[] setsByPoints() {
            return java.util.stream.IntStream.range(1, 1 << points).boxed()
                    .sorted((x, y) -> Integer.bitCount(x) != Integer.bitCount(y)
                            ? Integer.compare(Integer.bitCount(x), Integer.bitCount(y)) : Integer.compare(x, y))
                    .mapToInt(x -> x).toArray();
        }

        int thick(int what) {
            if (points < 2 || what < 0 || what > 2) {
                return -1;
            }
            Fraction best = new Fraction(-1, 1);
            int found = 0;
            for (int set : setsByPoints()) {
                if (Integer.bitCount(set) > 1) {
                    Fraction share = new Fraction(inner(set), Integer.bitCount(set) - 1);
                    if (share.compare(best) > 0) {
                        best = share;
                        found = set;
                    }
                }
            }
            return what == 2 ? found : best.part(what);
        }

        int crowded(int n) {
            if (n < 0 || n > 24) {
                return -1;
            }
            int best = 0;
            int found = 0;
            for (int set : setsByPoints()) {
                int more = inner(set) - n * (Integer.bitCount(set) - 1);
                if (Integer.bitCount(set) > 1 && more > best) {
                    best = more;
                    found = set;
                }
            }
            return found;
        }

        private Fraction weakest;
        private int weakestPieces;

        int strength(int what) {
            if (points < 2 || what < 0 || what > 2) {
                return -1;
            }
            weakest = null;
            part(new int[points], 0, 0);
            return what == 2 ? weakestPieces : weakest.part(what);
        }

        /** All partings: each point comes into a piece that is there, or into the next one. */
        private void part(int[] piece, int p, int many) {
            if (p == points) {
                if (many < 2) {
                    return;
                }
                int between = 0;
                for (Line line : net) {
                    between += !line.broken && piece[line.a] != piece[line.b] ? 1 : 0;
                }
                Fraction share = new Fraction(between, many - 1);
                int than = weakest == null ? -1 : share.compare(weakest);
                if (than < 0 || than == 0 && many < weakestPieces) {
                    weakest = share;
                    weakestPieces = many;
                }
                return;
            }
            for (int i = 0; i <= many; i++) {
                piece[p] = i;
                part(piece, p + 1, Math.max(many, i + 1));
            }
        }

        int even() {
            int most = 0;
            for (int set = 1; set < 1 << points; set++) {
                int many = Integer.bitCount(set);
                most = Math.max(most, -Math.floorDiv(-inner(set), many));
            }
            return most;
        }

        int rootedBy(int r, int set) {
            int fewest = 1000;
            for (int x = 1; x < 1 << points; x++) {
                if ((x >> r & 1) == 0) {
                    int count = 0;
                    for (int l = 0; l < net.size(); l++) {
                        Line line = net.get(l);
                        count += (set >> l & 1) != 0 && (x >> line.head() & 1) != 0 && (x >> line.tail() & 1) == 0 ? 1 : 0;
                    }
                    fewest = Math.min(fewest, count);
                }
            }
            return fewest;
        }

        int rooted(int r) {
            return noPoint(r) || points < 2 ? -1 : rootedBy(r, sound());
        }

        int outTree(int r, int i) {
            if (noPoint(r) || points < 2 || i < 0 || i >= rooted(r)) {
                return -1;
            }
            int left = sound();
            int tree = 0;
            int many = rooted(r);
            for (int t = 0; t <= i; t++) {
                tree = 0;
                int come = 1 << r;
                while (come != (1 << points) - 1) {
                    int l = 0;
                    while (true) {
                        Line line = net.get(l);
                        boolean leads = (left >> l & 1) != 0 && (come >> line.tail() & 1) != 0 && (come >> line.head() & 1) == 0;
                        if (leads && rootedBy(r, left & ~(1 << l)) >= many - t - 1) {
                            come |= 1 << line.head();
                            left &= ~(1 << l);
                            tree |= 1 << l;
                            break;
                        }
                        l++;
                    }
                }
            }
            return tree;
        }

        int vital() {
            int set = 0;
            for (int l = 0; l < net.size(); l++) {
                boolean less = !net.get(l).broken && mostOf(sound() & ~(1 << l), k) < mostOf(sound(), k);
                set |= less ? 1 << l : 0;
            }
            return set;
        }

        List<Layer> layerList() {
            List<Layer> layers = new ArrayList<>();
            List<TreeSet<Integer>> ones = new ArrayList<>();
            for (int p = 0; p < points; p++) {
                ones.add(new TreeSet<>(List.of(p)));
            }
            while (true) {
                Model melted = new Model();
                melted.points = points;
                for (Line line : net) {
                    int a = least(ones, line.a);
                    int b = least(ones, line.b);
                    if (!line.broken && a != b) {
                        melted.net.add(new Line(a, b, 1));
                    }
                }
                if (melted.net.isEmpty()) {
                    return layers;
                }
                int set = melted.thick(2);
                TreeSet<Integer> all = new TreeSet<>();
                for (int p = 0; p < points; p++) {
                    if ((set >> p & 1) != 0) {
                        int q = p;
                        TreeSet<Integer> part = ones.stream().filter(one -> one.first() == q).findFirst().orElseThrow();
                        ones.remove(part);
                        all.addAll(part);
                    }
                }
                ones.add(all);
                int told = all.stream().mapToInt(p -> 1 << p).sum();
                layers.add(new Layer(new Fraction(melted.thick(0), melted.thick(1)), told));
            }
        }

        private static int least(List<TreeSet<Integer>> ones, int p) {
            return ones.stream().filter(one -> one.contains(p)).findFirst().orElseThrow().first();
        }

        int layerAt(int i, int what) {
            List<Layer> layers = layerList();
            if (i < 0 || i >= layers.size() || what < 0 || what > 2) {
                return -1;
            }
            return what == 2 ? layers.get(i).set() : layers.get(i).fraction().part(what);
        }

        int light(int n, int what) {
            if (n < 0 || n > 24 || what < 0 || what > 1) {
                return -1;
            }
            List<Integer> order = new ArrayList<>();
            for (int l = 0; l < net.size(); l++) {
                order.add(l);
            }
            order.sort((x, y) -> Integer.compare(net.get(x).weight, net.get(y).weight));
            int taken = 0;
            int weights = 0;
            for (int l : order) {
                int more = taken | 1 << l;
                if (!net.get(l).broken && mostOf(more, n) == Integer.bitCount(more)) {
                    taken = more;
                    weights += net.get(l).weight;
                }
            }
            return what == 0 ? weights : taken;
        }

        private int seed;

        private int draw(int n) {
            seed = seed * 1103515245 + 12345;
            return (seed >>> 8) % n;
        }

        int drawn(int n, int from) {
            if (n < 1 || n > 60) {
                return -1;
            }
            if (net.isEmpty()) {
                return 0;
            }
            seed = from;
            Kept old = snapshot();
            int done = 0;
            for (int i = 0; i < n; i++) {
                done += deed() ? 1 : 0;
            }
            if (done > 0) {
                did(old);
            }
            return done;
        }

        private boolean deed() {
            int kind = draw(6);
            int l = draw(net.size());
            Line line = net.get(l);
            if (kind < 2) {
                if (!waits(l)) {
                    return false;
                }
                List<int[]> steps = chainOf(l);
                carry(steps);
                return !steps.isEmpty();
            }
            if (kind == 2) {
                boolean lay = line.home >= 0;
                line.home = -1;
                return lay;
            }
            if (kind == 3) {
                line.broken = !line.broken;
                line.home = -1;
                return true;
            }
            int f = draw(k);
            if (kind == 4) {
                boolean can = why(l, f) == 0;
                line.home = can ? f : line.home;
                return can;
            }
            int m = tradeWith(l, f);
            if (m >= 0) {
                net.get(m).home = line.home;
                line.home = f;
            }
            return m >= 0;
        }

        boolean image(int place) {
            if (place < 0 || place > 1) {
                return false;
            }
            images[place] = snapshot();
            return true;
        }

        boolean restore(int place) {
            if (place < 0 || place > 1 || images[place] == null) {
                return false;
            }
            backTo(images[place]);
            acts.clear();
            return true;
        }
    }
}
