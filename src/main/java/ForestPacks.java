import java.util.NoSuchElementException;

/** Lines of a network packed into forests, as DOC.md promises. */
public final class ForestPacks {
    public static final int NONE = -1;

    private static final int MOST_POINTS = 10;
    private static final int MOST_LINES = 24;
    private static final int MOST_FORESTS = 5;
    private static final int MOST_PARTS = 24;
    private static final int MOST_WEIGHT = 99;
    private static final int MOST_DEEDS = 60;
    private static final int POINT_SETS = 1024;
    private static final int PLACES = 2;

    private final Net current = new Net();
    private final Tape tape = new Tape();
    private final Reader reader = new Reader(tape);
    private final Acts acts = new Acts(current);
    private final Chains chains = new Chains(current);
    private final PointSets sets = new PointSets(current);
    private final Layers melting = new Layers(current, sets);
    private final Partings partings = new Partings(current, sets);
    private final OutTrees outTrees = new OutTrees(current);
    private final Easing easing = new Easing(current);
    private final Game play = new Game(current, tape);
    private final Net[] images = new Net[PLACES];
    private int seed;

    public ForestPacks() {
    }

    public int feed(int a, int b, int c, int d, int e) {
        if (!tape.hasRoom()) {
            return NONE;
        }
        tape.add(a);
        tape.add(b);
        tape.add(c);
        tape.add(d);
        tape.add(e);
        return tape.size();
    }

    public boolean end(int n) {
        if (n < 0 || n > tape.size()) {
            return false;
        }
        tape.cut(n);
        return true;
    }

    public int net() {
        int rows = reader.read();
        tape.cut(0);
        if (rows >= 0) {
            current.become(reader.told());
            acts.forget();
        }
        return rows;
    }

    public int fault() {
        return reader.faultKind();
    }

    public int forests(int n) {
        if (n < 1 || n > MOST_FORESTS || n == current.k) {
            return NONE;
        }
        acts.before();
        int lifted = 0;
        for (int l = 0; l < current.lines; l++) {
            if (current.home[l] >= n) {
                current.home[l] = NONE;
                lifted++;
            }
        }
        current.k = n;
        acts.done();
        return lifted;
    }

    public int line(int l, int what) throws NoSuchElementException {
        if (!current.hasLine(l) || what < 0 || what > 4) {
            throw new NoSuchElementException("no such line, or nothing such is told of it");
        }
        switch (what) {
            case 0:
                return current.first[l];
            case 1:
                return current.second[l];
            case 2:
                return current.weight[l];
            case 3:
                return current.home[l];
            default:
                return current.isSound(l) ? 0 : 1;
        }
    }

    public int ring(int l, int f) throws NoSuchElementException {
        if (!current.hasLine(l) || !current.hasForest(f)) {
            throw new NoSuchElementException("no such line or forest");
        }
        if (!current.isSound(l) || current.home[l] == f) {
            throw new NoSuchElementException("the line is broken, or lies there");
        }
        return chains.ringOf(l, f);
    }

    public int forest(int f) {
        return current.hasForest(f) ? current.forestSet(f) : NONE;
    }

    public int now(int what) {
        switch (what) {
            case 0:
                return current.points;
            case 1:
                return current.lines;
            case 2:
                return current.k;
            case 3:
                return Integer.bitCount(current.soundSet());
            case 4:
                return current.packed();
            case 5:
                return current.pieces(current.soundSet());
            case 6:
                return current.pieces(current.forestSet(0));
            case 7:
                return acts.count();
            case 8:
                return tape.size();
            default:
                return NONE;
        }
    }

    public int put(int l, int f) {
        if (!current.hasLine(l) || !current.hasForest(f)) {
            return NONE;
        }
        int why = whyNotPut(l, f);
        if (why == 0) {
            acts.before();
            current.home[l] = f;
            acts.done();
        }
        return why;
    }

    public int lift(int l) {
        if (!current.hasLine(l) || current.home[l] == NONE) {
            return NONE;
        }
        acts.before();
        int lay = current.home[l];
        current.home[l] = NONE;
        acts.done();
        return lay;
    }

    public int place(int l) {
        if (!canBePlaced(l)) {
            return NONE;
        }
        int length = chains.find(l);
        chains.remember();
        if (length > 0) {
            acts.before();
            chains.carryOut();
            acts.done();
        }
        return length;
    }

    public int chain(int l) {
        if (!canBePlaced(l)) {
            return NONE;
        }
        int length = chains.find(l);
        chains.remember();
        return length;
    }

    public int chainAt(int i, int what) {
        return chains.toldAt(i, what);
    }

    public int crowd() {
        return chains.toldCrowd();
    }

    public int pack() {
        acts.before();
        int placed = 0;
        for (int l = 0; l < current.lines; l++) {
            if (canBePlaced(l) && chains.find(l) > 0) {
                chains.carryOut();
                placed++;
            }
        }
        if (placed > 0) {
            acts.done();
        }
        return placed;
    }

    public int trade(int l, int f) {
        if (!current.hasLine(l) || !current.hasForest(f)) {
            return NONE;
        }
        int other = chains.traded(l, f);
        if (other != NONE) {
            acts.before();
            chains.swap(l, other);
            acts.done();
        }
        return other;
    }

    public int breaks(int l) {
        if (!current.hasLine(l)) {
            return NONE;
        }
        if (!current.isSound(l)) {
            return 1;
        }
        acts.before();
        current.breakLine(l);
        acts.done();
        return 0;
    }

    public int mend(int l) {
        if (!current.hasLine(l)) {
            return NONE;
        }
        if (current.isSound(l)) {
            return 1;
        }
        acts.before();
        current.mendLine(l);
        acts.done();
        return 0;
    }

    public int weigh(int l, int w) {
        if (!current.hasLine(l) || w < 1 || w > MOST_WEIGHT) {
            return NONE;
        }
        if (current.weight[l] == w) {
            return 1;
        }
        acts.before();
        current.weight[l] = w;
        acts.done();
        return 0;
    }

    public int turn(int l) {
        if (!current.hasLine(l)) {
            return NONE;
        }
        acts.before();
        current.turnLine(l);
        acts.done();
        return current.tail(l);
    }

    public int load(int p) {
        return p < 0 || p >= current.points ? NONE : current.loadOf(p);
    }

    public int ease() {
        int way = easing.findWay();
        if (way == 0) {
            return 0;
        }
        acts.before();
        current.turned ^= way;
        acts.done();
        return Integer.bitCount(way);
    }

    public int game() {
        int cuts = play.run();
        tape.cut(0);
        return cuts;
    }

    public int keptAt(int i) {
        return play.toldAt(i);
    }

    public int undo() {
        return acts.takeBack() ? acts.count() : NONE;
    }

    public int most(int k) {
        return k < 0 || k > MOST_PARTS ? NONE : Integer.bitCount(sets.takeByNumber(k));
    }

    public int fewest() {
        return sets.fewestForests();
    }

    public int trees() {
        return current.points < 2 ? NONE : sets.mostTrees();
    }

    public int thick(int what) {
        if (current.points < 2 || what < 0 || what > 2) {
            return NONE;
        }
        sets.findThick();
        if (what == 2) {
            return sets.bestSet();
        }
        return leastTerms(sets.bestAbove(), sets.bestBelow(), what);
    }

    public int crowded(int k) {
        return k < 0 || k > MOST_PARTS ? NONE : sets.findCrowded(k);
    }

    public int strength(int what) {
        if (current.points < 2 || what < 0 || what > 2) {
            return NONE;
        }
        partings.findWeakest();
        if (what == 2) {
            return partings.pieces();
        }
        return leastTerms(partings.above(), partings.pieces() - 1, what);
    }

    public int even() {
        return sets.leastLoad();
    }

    public int rooted(int r) {
        if (current.points < 2 || r < 0 || r >= current.points) {
            return NONE;
        }
        return outTrees.countFrom(r);
    }

    public int outTree(int r, int i) {
        if (current.points < 2 || r < 0 || r >= current.points) {
            return NONE;
        }
        return outTrees.treeSet(r, i);
    }

    public int vital() {
        return sets.vitalSet(current.k);
    }

    public int layers() {
        return melting.melt();
    }

    public int layerAt(int i, int what) {
        if (i < 0 || i >= melting.melt() || what < 0 || what > 2) {
            return NONE;
        }
        if (what == 2) {
            return melting.setAt(i);
        }
        return leastTerms(melting.aboveAt(i), melting.belowAt(i), what);
    }

    public int light(int k, int what) {
        if (k < 0 || k > MOST_PARTS || what < 0 || what > 1) {
            return NONE;
        }
        int taken = sets.takeByWeight(k);
        return what == 1 ? taken : current.weightOf(taken);
    }

    public int drawn(int n, int seed) {
        if (n < 1 || n > MOST_DEEDS) {
            return NONE;
        }
        if (current.lines == 0) {
            return 0;
        }
        this.seed = seed;
        acts.before();
        int done = 0;
        for (int i = 0; i < n; i++) {
            if (drawDeed()) {
                done++;
            }
        }
        if (done > 0) {
            acts.done();
        }
        return done;
    }

    public boolean image(int k) {
        if (k < 0 || k >= PLACES) {
            return false;
        }
        if (images[k] == null) {
            images[k] = new Net();
        }
        images[k].become(current);
        return true;
    }

    public boolean restore(int k) {
        if (k < 0 || k >= PLACES || images[k] == null) {
            return false;
        }
        current.become(images[k]);
        acts.forget();
        return true;
    }

    private int whyNotPut(int l, int f) {
        if (!current.isSound(l)) {
            return 1;
        }
        if (current.home[l] != NONE) {
            return 2;
        }
        return chains.ringOf(l, f) != 0 ? 3 : 0;
    }

    private boolean canBePlaced(int l) {
        return current.hasLine(l) && current.isSound(l) && current.home[l] == NONE;
    }

    private int draw(int n) {
        seed = seed * 1103515245 + 12345;
        return n < 1 ? 0 : (seed >>> 8) % n;
    }

    private boolean drawDeed() {
        int kind = draw(6);
        int l = draw(current.lines);
        switch (kind) {
            case 0:
            case 1:
                return deedPlace(l);
            case 2:
                return deedLift(l);
            case 3:
                return deedBreakOrMend(l);
            case 4:
                return deedPut(l, draw(current.k));
            default:
                return deedTrade(l, draw(current.k));
        }
    }

    private boolean deedPlace(int l) {
        if (!canBePlaced(l) || chains.find(l) == 0) {
            return false;
        }
        chains.carryOut();
        return true;
    }

    private boolean deedLift(int l) {
        if (current.home[l] == NONE) {
            return false;
        }
        current.home[l] = NONE;
        return true;
    }

    private boolean deedBreakOrMend(int l) {
        if (current.isSound(l)) {
            current.breakLine(l);
        } else {
            current.mendLine(l);
        }
        return true;
    }

    private boolean deedPut(int l, int f) {
        if (whyNotPut(l, f) != 0) {
            return false;
        }
        current.home[l] = f;
        return true;
    }

    private boolean deedTrade(int l, int f) {
        int other = chains.traded(l, f);
        if (other == NONE) {
            return false;
        }
        chains.swap(l, other);
        return true;
    }

    private static int leastTerms(int above, int below, int what) {
        int a = below;
        int b = above;
        for (int i = 0; i < 64 && b != 0; i++) {
            int rest = a % b;
            a = b;
            b = rest;
        }
        int told = what == 0 ? above : below;
        return a == 0 ? told : told / a;
    }

    /** All that an act changes and an image keeps, so that one copy serves both. */
    private static final class Net {
        final int[] first = new int[MOST_LINES];
        final int[] second = new int[MOST_LINES];
        final int[] weight = new int[MOST_LINES];
        final int[] home = new int[MOST_LINES];
        int points;
        int lines;
        int k = 2;
        int broken;
        // A line whose bit is set is turned out of its second point.
        int turned;

        void become(Net other) {
            System.arraycopy(other.first, 0, first, 0, MOST_LINES);
            System.arraycopy(other.second, 0, second, 0, MOST_LINES);
            System.arraycopy(other.weight, 0, weight, 0, MOST_LINES);
            System.arraycopy(other.home, 0, home, 0, MOST_LINES);
            points = other.points;
            lines = other.lines;
            k = other.k;
            broken = other.broken;
            turned = other.turned;
        }

        void clear() {
            points = 0;
            lines = 0;
            k = 2;
            broken = 0;
            turned = 0;
        }

        void addLine(int a, int b, int w) {
            if (lines >= MOST_LINES) {
                return;
            }
            first[lines] = a;
            second[lines] = b;
            weight[lines] = w;
            home[lines] = NONE;
            lines++;
        }

        boolean hasLine(int l) {
            return l >= 0 && l < lines;
        }

        boolean hasForest(int f) {
            return f >= 0 && f < k;
        }

        boolean isSound(int l) {
            return (broken >> l & 1) == 0;
        }

        int soundSet() {
            return ((1 << lines) - 1) & ~broken;
        }

        int allPoints() {
            return (1 << points) - 1;
        }

        int ends(int l) {
            return 1 << first[l] | 1 << second[l];
        }

        int tail(int l) {
            return (turned >> l & 1) == 0 ? first[l] : second[l];
        }

        int head(int l) {
            return (turned >> l & 1) == 0 ? second[l] : first[l];
        }

        void turnLine(int l) {
            turned ^= 1 << l;
        }

        void breakLine(int l) {
            home[l] = NONE;
            broken |= 1 << l;
        }

        void mendLine(int l) {
            broken &= ~(1 << l);
        }

        int forestSet(int f) {
            int set = 0;
            for (int l = 0; l < lines; l++) {
                if (home[l] == f) {
                    set |= 1 << l;
                }
            }
            return set;
        }

        int packed() {
            return lines - Integer.bitCount(forestSet(NONE));
        }

        int loadOf(int p) {
            int load = 0;
            for (int l = 0; l < lines; l++) {
                if (isSound(l) && tail(l) == p) {
                    load++;
                }
            }
            return load;
        }

        int weightOf(int set) {
            int sum = 0;
            for (int l = 0; l < lines; l++) {
                if ((set >> l & 1) != 0) {
                    sum += weight[l];
                }
            }
            return sum;
        }

        int reach(int start, int set) {
            int reached = 1 << start;
            for (int round = 0; round < points; round++) {
                int before = reached;
                for (int l = 0; l < lines; l++) {
                    if ((set >> l & 1) != 0 && (ends(l) & reached) != 0) {
                        reached |= ends(l);
                    }
                }
                if (reached == before) {
                    break;
                }
            }
            return reached;
        }

        int pieces(int set) {
            int count = 0;
            int seen = 0;
            for (int p = 0; p < points; p++) {
                if ((seen >> p & 1) == 0) {
                    seen |= reach(p, set);
                    count++;
                }
            }
            return count;
        }
    }

    private static final class Tape {
        private static final int MOST_BYTES = 640;
        private static final int FEED_BYTES = 20;

        private final int[] bytes = new int[MOST_BYTES];
        private int used;

        boolean hasRoom() {
            return used + FEED_BYTES <= MOST_BYTES;
        }

        void add(int four) {
            for (int shift = 24; shift >= 0 && used < MOST_BYTES; shift -= 8) {
                bytes[used] = four >>> shift & 255;
                used++;
            }
        }

        void cut(int n) {
            used = n;
        }

        int size() {
            return used;
        }

        int byteAt(int i) {
            return i < 0 || i >= used ? NONE : bytes[i];
        }
    }

    private static final class Reader {
        private static final int TEXT_BYTES = 600;
        private static final int MOST_LETTERS = 7;
        private static final int MOST_DIGITS = 2;
        private static final int END = 0;
        private static final int WORD = 1;
        private static final int NUMBER = 2;
        private static final int SIGN = 3;
        private static final int NO_TOKEN = 4;

        private final Tape tape;
        // Apart from the net in use, which stays if there is a fault.
        private final Net fresh = new Net();
        private final long[] names = new long[MOST_POINTS];
        private final long pointWord = codeOf("point");
        private final long lineWord = codeOf("line");
        private final long forestsWord = codeOf("forests");
        private boolean forestsTold;
        private int at;
        private int kind;
        private int start;
        private long value;
        private int fault;
        private int faultPlace;

        Reader(Tape tape) {
            this.tape = tape;
        }

        Net told() {
            return fresh;
        }

        int faultKind() {
            return fault;
        }

        int read() {
            fresh.clear();
            forestsTold = false;
            at = 0;
            fault = 0;
            int rows = 0;
            for (int i = 0; i <= TEXT_BYTES; i++) {
                nextToken();
                if (kind == END || !readRow()) {
                    break;
                }
                rows++;
            }
            if (fault == 0 && tape.size() > TEXT_BYTES) {
                fail(1);
            }
            return fault == 0 ? rows : -1 - faultPlace;
        }

        private boolean readRow() {
            if (kind == WORD && value == pointWord) {
                return readPoint();
            }
            if (kind == WORD && value == lineWord) {
                return readLine();
            }
            if (kind == WORD && value == forestsWord) {
                return readForests();
            }
            return fail(1);
        }

        private boolean readPoint() {
            if (fresh.points >= MOST_POINTS) {
                return fail(4);
            }
            nextToken();
            if (!isName()) {
                return fail(1);
            }
            if (pointOf(value) != NONE) {
                return fail(3);
            }
            names[fresh.points] = value;
            fresh.points++;
            return readSign();
        }

        private boolean readLine() {
            if (fresh.lines >= MOST_LINES) {
                return fail(4);
            }
            int a = readEnd(NONE);
            if (a == NONE) {
                return false;
            }
            int b = readEnd(a);
            if (b == NONE || !readNumber(MOST_WEIGHT)) {
                return false;
            }
            fresh.addLine(a, b, (int) value);
            return readSign();
        }

        private boolean readForests() {
            if (forestsTold) {
                return fail(3);
            }
            if (!readNumber(MOST_FORESTS)) {
                return false;
            }
            fresh.k = (int) value;
            forestsTold = true;
            return readSign();
        }

        private int readEnd(int other) {
            nextToken();
            if (!isName()) {
                fail(1);
                return NONE;
            }
            int p = pointOf(value);
            if (p == NONE || p == other) {
                fail(3);
                return NONE;
            }
            return p;
        }

        private boolean isName() {
            return kind == WORD && value != pointWord && value != lineWord && value != forestsWord;
        }

        private boolean readNumber(int greatest) {
            nextToken();
            if (kind != NUMBER) {
                return fail(1);
            }
            return value < 1 || value > greatest ? fail(2) : true;
        }

        private boolean readSign() {
            nextToken();
            return kind == SIGN ? true : fail(1);
        }

        private boolean fail(int what) {
            fault = what;
            faultPlace = start;
            return false;
        }

        private int pointOf(long name) {
            for (int p = 0; p < fresh.points; p++) {
                if (names[p] == name) {
                    return p;
                }
            }
            return NONE;
        }

        private void nextToken() {
            int limit = Math.min(tape.size(), TEXT_BYTES);
            while (at < limit && isBlank(tape.byteAt(at))) {
                at++;
            }
            start = Math.min(at, limit);
            if (at >= limit) {
                kind = END;
            } else if (tape.byteAt(at) == ';') {
                kind = SIGN;
                at++;
            } else {
                readRun();
            }
        }

        private void readRun() {
            int letters = 0;
            int digits = 0;
            value = 0;
            // Not only to the limit: what begins ahead of it is read whole.
            while (at < tape.size()) {
                int sign = tape.byteAt(at);
                if (isLetter(sign)) {
                    letters++;
                    value = value * 27 + letterCode(sign);
                } else if (isDigit(sign)) {
                    digits++;
                    value = value * 10 + sign - '0';
                } else {
                    break;
                }
                at++;
            }
            kind = NO_TOKEN;
            if (digits == 0 && letters >= 1 && letters <= MOST_LETTERS) {
                kind = WORD;
            } else if (letters == 0 && digits >= 1 && digits <= MOST_DIGITS) {
                kind = NUMBER;
            }
        }

        private static boolean isBlank(int sign) {
            return sign == 32 || sign == 10;
        }

        private static boolean isLetter(int sign) {
            return sign >= 'a' && sign <= 'z';
        }

        private static boolean isDigit(int sign) {
            return sign >= '0' && sign <= '9';
        }

        private static int letterCode(int sign) {
            return sign - 'a' + 1;
        }

        private static long codeOf(String word) {
            long code = 0;
            for (int i = 0; i < word.length(); i++) {
                code = code * 27 + letterCode(word.charAt(i));
            }
            return code;
        }
    }

    private static final class Acts {
        private static final int MOST_ACTS = 8;

        private final Net net;
        // One more than are kept: an act that comes to nothing must not cost the oldest one.
        private final Net[] kept = new Net[MOST_ACTS + 1];
        private int next;
        private int count;

        Acts(Net net) {
            this.net = net;
            for (int i = 0; i < kept.length; i++) {
                kept[i] = new Net();
            }
        }

        void before() {
            kept[next].become(net);
        }

        void done() {
            next = next < MOST_ACTS ? next + 1 : 0;
            if (count < MOST_ACTS) {
                count++;
            }
        }

        boolean takeBack() {
            if (count == 0) {
                return false;
            }
            next = next > 0 ? next - 1 : MOST_ACTS;
            count--;
            net.become(kept[next]);
            return true;
        }

        void forget() {
            count = 0;
        }

        int count() {
            return count;
        }
    }

    private static final class Chains {
        private final Net net;
        private final int[] wayTo = new int[MOST_POINTS];
        private final int[] queue = new int[MOST_LINES];
        private final int[] ledBy = new int[MOST_LINES];
        private final int[] step = new int[MOST_LINES];
        private final int[] into = new int[MOST_LINES];
        private int length;
        private int seen;
        // Apart from the rows above, which pack() and drawn() use as well.
        private final int[] toldStep = new int[MOST_LINES];
        private final int[] toldInto = new int[MOST_LINES];
        private int toldLength;
        private int toldCrowd;

        Chains(Net net) {
            this.net = net;
        }

        int ringOf(int l, int f) {
            int target = net.second[l];
            int reached = 1 << net.first[l];
            wayTo[net.first[l]] = 0;
            for (int round = 0; round < net.points; round++) {
                int before = reached;
                for (int x = 0; x < net.lines; x++) {
                    if (net.home[x] == f) {
                        reached |= goAlong(x, reached);
                    }
                }
                if (reached == before || (reached >> target & 1) != 0) {
                    break;
                }
            }
            return (reached >> target & 1) != 0 ? wayTo[target] : 0;
        }

        private int goAlong(int x, int reached) {
            int a = net.first[x];
            int b = net.second[x];
            int atFirst = reached >> a & 1;
            if (atFirst == (reached >> b & 1)) {
                return 0;
            }
            int from = atFirst == 1 ? a : b;
            int to = atFirst == 1 ? b : a;
            wayTo[to] = wayTo[from] | 1 << x;
            return 1 << to;
        }

        int find(int l) {
            length = 0;
            seen = 1 << l;
            queue[0] = l;
            ledBy[0] = NONE;
            int queued = 1;
            // The queue stands in the order of the ways, as each line adds its own in rising order:
            // so the first chain found is the shortest, and the least of these.
            for (int i = 0; i < queued && i < MOST_LINES; i++) {
                int x = queue[i];
                int free = freeForest(x);
                if (free != NONE) {
                    writeDown(i, free);
                    return length;
                }
                int found = allRings(x) & ~seen;
                seen |= found;
                for (int y = 0; y < net.lines && queued < MOST_LINES; y++) {
                    if ((found >> y & 1) != 0) {
                        queue[queued] = y;
                        ledBy[queued] = i;
                        queued++;
                    }
                }
            }
            return 0;
        }

        private int freeForest(int x) {
            for (int f = 0; f < net.k; f++) {
                if (net.home[x] != f && ringOf(x, f) == 0) {
                    return f;
                }
            }
            return NONE;
        }

        private int allRings(int x) {
            int rings = 0;
            for (int f = 0; f < net.k; f++) {
                if (net.home[x] != f) {
                    rings |= ringOf(x, f);
                }
            }
            return rings;
        }

        private void writeDown(int last, int free) {
            for (int i = last; i >= 0 && length < MOST_LINES; i = ledBy[i]) {
                length++;
            }
            int place = last;
            int forest = free;
            for (int i = length - 1; i >= 0 && place >= 0; i--) {
                step[i] = queue[place];
                into[i] = forest;
                forest = net.home[queue[place]];
                place = ledBy[place];
            }
        }

        void carryOut() {
            for (int i = 0; i < length; i++) {
                net.home[step[i]] = into[i];
            }
        }

        void remember() {
            if (length > 0) {
                System.arraycopy(step, 0, toldStep, 0, length);
                System.arraycopy(into, 0, toldInto, 0, length);
                toldLength = length;
                return;
            }
            toldCrowd = 0;
            for (int l = 0; l < net.lines; l++) {
                if ((seen >> l & 1) != 0) {
                    toldCrowd |= net.ends(l);
                }
            }
        }

        int toldAt(int i, int what) {
            if (i < 0 || i >= toldLength || what < 0 || what > 1) {
                return NONE;
            }
            return what == 0 ? toldStep[i] : toldInto[i];
        }

        int toldCrowd() {
            return toldCrowd;
        }

        int traded(int l, int f) {
            int own = net.home[l];
            if (own == NONE || own == f || !isTree(own) || !isTree(f)) {
                return NONE;
            }
            int ring = ringOf(l, f);
            for (int m = 0; m < net.lines; m++) {
                if ((ring >> m & 1) != 0 && (ringOf(m, own) >> l & 1) != 0) {
                    return m;
                }
            }
            return NONE;
        }

        private boolean isTree(int f) {
            return Integer.bitCount(net.forestSet(f)) == net.points - 1;
        }

        void swap(int l, int m) {
            int own = net.home[l];
            net.home[l] = net.home[m];
            net.home[m] = own;
        }
    }

    /**
     * Lines can lie in k forests just if no set of points has more of them inside than k times its points less 1
     * (Nash-Williams), so that counting lines inside of sets answers what would else take a packing.
     */
    private static final class PointSets {
        private final Net net;
        private final int[] inner = new int[POINT_SETS];
        private final int[] taken = new int[POINT_SETS];
        private final int[] itself = new int[MOST_POINTS];
        private int bestSet;
        private int bestAbove;
        private int bestBelow;

        PointSets(Net net) {
            this.net = net;
            for (int p = 0; p < MOST_POINTS; p++) {
                itself[p] = p;
            }
        }

        int bestSet() {
            return bestSet;
        }

        int bestAbove() {
            return bestAbove;
        }

        int bestBelow() {
            return bestBelow;
        }

        int innerOf(int set) {
            return set < 0 || set >= POINT_SETS ? 0 : inner[set];
        }

        void countInner() {
            countInner(itself);
        }

        private void countInner(int[] as) {
            int size = 1 << net.points;
            for (int s = 0; s < size; s++) {
                inner[s] = 0;
            }
            for (int l = 0; l < net.lines; l++) {
                int a = as[net.first[l]];
                int b = as[net.second[l]];
                if (net.isSound(l) && a != b) {
                    inner[1 << a | 1 << b]++;
                }
            }
            // From pairs to all sets, point by point: far fewer steps than each line in each set.
            for (int p = 0; p < net.points; p++) {
                for (int s = 0; s < size; s++) {
                    if ((s >> p & 1) != 0) {
                        inner[s] += inner[s ^ 1 << p];
                    }
                }
            }
        }

        void findThick() {
            findThick(itself, net.allPoints());
        }

        void findThick(int[] as, int among) {
            countInner(as);
            bestSet = 0;
            bestAbove = -1;
            bestBelow = 1;
            for (int s = 3; s <= among; s++) {
                int below = Integer.bitCount(s) - 1;
                if ((s & ~among) != 0 || below < 1) {
                    continue;
                }
                int more = inner[s] * bestBelow - bestAbove * below;
                if (more > 0 || more == 0 && below < bestBelow) {
                    bestSet = s;
                    bestAbove = inner[s];
                    bestBelow = below;
                }
            }
        }

        int findCrowded(int k) {
            countInner();
            int best = 0;
            int bestMore = 0;
            int bestSize = 0;
            for (int s = 3; s <= net.allPoints(); s++) {
                int size = Integer.bitCount(s);
                if (size < 2) {
                    continue;
                }
                int more = inner[s] - k * (size - 1);
                if (more > bestMore || more == bestMore && size < bestSize) {
                    best = s;
                    bestMore = more;
                    bestSize = size;
                }
            }
            return best;
        }

        int fewestForests() {
            return greatestShare(1);
        }

        int leastLoad() {
            return greatestShare(0);
        }

        private int greatestShare(int less) {
            countInner();
            int most = 0;
            for (int s = 3; s <= net.allPoints(); s++) {
                int below = Integer.bitCount(s) - less;
                if (below > 0) {
                    most = Math.max(most, (inner[s] + below - 1) / below);
                }
            }
            return most;
        }

        int mostTrees() {
            int step = net.points - 1;
            int trees = 0;
            while (trees < MOST_PARTS && Integer.bitCount(takeByNumber(trees + 1)) == (trees + 1) * step) {
                trees++;
            }
            return trees;
        }

        private void takeNone() {
            for (int s = 0; s <= net.allPoints(); s++) {
                taken[s] = 0;
            }
        }

        private boolean take(int l, int k) {
            int ends = net.ends(l);
            int size = 1 << net.points;
            for (int s = ends; s < size; s = s + 1 | ends) {
                if (isFull(s, k)) {
                    return false;
                }
            }
            for (int s = ends; s < size; s = s + 1 | ends) {
                taken[s]++;
            }
            return true;
        }

        private boolean isFull(int s, int k) {
            return taken[s] >= k * (Integer.bitCount(s) - 1);
        }

        int takeByNumber(int k) {
            takeNone();
            int set = 0;
            for (int l = 0; l < net.lines; l++) {
                if (net.isSound(l) && take(l, k)) {
                    set |= 1 << l;
                }
            }
            return set;
        }

        int takeByWeight(int k) {
            takeNone();
            int set = 0;
            for (int w = 1; w <= MOST_WEIGHT; w++) {
                for (int l = 0; l < net.lines; l++) {
                    if (net.weight[l] == w && net.isSound(l) && take(l, k)) {
                        set |= 1 << l;
                    }
                }
            }
            return set;
        }

        int vitalSet(int k) {
            int set = takeByNumber(k);
            int left = net.soundSet() & ~set;
            int vital = set;
            // A line left out can come in for any line inside of its least full set, which is not vital then.
            for (int l = 0; l < net.lines; l++) {
                if ((left >> l & 1) != 0) {
                    vital &= ~linesIn(leastFull(l, k));
                }
            }
            return vital;
        }

        // What two full sets that meet have in common is full too: there is one in all of them.
        private int leastFull(int l, int k) {
            int ends = net.ends(l);
            int size = 1 << net.points;
            int least = net.allPoints();
            for (int s = ends; s < size; s = s + 1 | ends) {
                if (isFull(s, k)) {
                    least &= s;
                }
            }
            return least;
        }

        private int linesIn(int points) {
            int set = 0;
            for (int l = 0; l < net.lines; l++) {
                if ((net.ends(l) & ~points) == 0) {
                    set |= 1 << l;
                }
            }
            return set;
        }
    }

    private static final class Layers {
        private final Net net;
        private final PointSets sets;
        private final int[] as = new int[MOST_POINTS];
        private final int[] above = new int[MOST_POINTS];
        private final int[] below = new int[MOST_POINTS];
        private final int[] melted = new int[MOST_POINTS];

        Layers(Net net, PointSets sets) {
            this.net = net;
            this.sets = sets;
        }

        int aboveAt(int i) {
            return i < 0 || i >= MOST_POINTS ? 0 : above[i];
        }

        int belowAt(int i) {
            return i < 0 || i >= MOST_POINTS ? 1 : below[i];
        }

        int setAt(int i) {
            return i < 0 || i >= MOST_POINTS ? 0 : melted[i];
        }

        int melt() {
            for (int p = 0; p < MOST_POINTS; p++) {
                as[p] = p;
            }
            int among = net.allPoints();
            int count = 0;
            while (count < MOST_POINTS && isLineLeft()) {
                sets.findThick(as, among);
                int set = sets.bestSet();
                above[count] = sets.bestAbove();
                below[count] = sets.bestBelow();
                melted[count] = join(set);
                among &= ~(set & set - 1);
                count++;
            }
            return count;
        }

        private boolean isLineLeft() {
            for (int l = 0; l < net.lines; l++) {
                if (net.isSound(l) && as[net.first[l]] != as[net.second[l]]) {
                    return true;
                }
            }
            return false;
        }

        private int join(int set) {
            int least = Integer.bitCount((set & -set) - 1);
            int all = 0;
            for (int p = 0; p < net.points; p++) {
                if ((set >> as[p] & 1) != 0) {
                    as[p] = least;
                    all |= 1 << p;
                }
            }
            return all;
        }
    }

    private static final class Partings {
        private final Net net;
        private final PointSets sets;
        // For sets without point 0 alone: that lies in the piece that is taken off first.
        private int[] inside = new int[POINT_SETS];
        private int[] insideNext = new int[POINT_SETS];
        private int above;
        private int pieces;

        Partings(Net net, PointSets sets) {
            this.net = net;
            this.sets = sets;
        }

        int above() {
            return above;
        }

        int pieces() {
            return pieces;
        }

        void findWeakest() {
            sets.countInner();
            int all = net.allPoints();
            int lines = sets.innerOf(all);
            for (int s = 2; s <= all; s += 2) {
                inside[s] = sets.innerOf(s);
            }
            pieces = 0;
            for (int count = 2; count <= net.points; count++) {
                int between = lines - mostInside(all);
                if (pieces == 0 || between * (pieces - 1) < above * (count - 1)) {
                    above = between;
                    pieces = count;
                }
                addPiece(all);
            }
        }

        private void addPiece(int all) {
            for (int s = 2; s <= all; s += 2) {
                insideNext[s] = mostInside(s);
            }
            int[] old = inside;
            inside = insideNext;
            insideNext = old;
        }

        // One piece has the least point of the set: trying those alone leaves no parting out.
        private int mostInside(int set) {
            int least = set & -set;
            int rest = set ^ least;
            int most = NONE;
            for (int other = rest; other > 0; other = other - 1 & rest) {
                if (inside[other] != NONE) {
                    most = Math.max(most, inside[other] + sets.innerOf(set ^ other));
                }
            }
            return most;
        }
    }

    private static final class OutTrees {
        private final Net net;
        private final int[] entering = new int[POINT_SETS];

        OutTrees(Net net) {
            this.net = net;
        }

        int countFrom(int root) {
            for (int s = 0; s <= net.allPoints(); s++) {
                entering[s] = 0;
            }
            for (int l = 0; l < net.lines; l++) {
                if (net.isSound(l)) {
                    change(l, 1);
                }
            }
            int fewest = MOST_LINES;
            for (int s = 1; s <= net.allPoints(); s++) {
                if ((s >> root & 1) == 0) {
                    fewest = Math.min(fewest, entering[s]);
                }
            }
            return fewest;
        }

        private void change(int l, int by) {
            for (int s = 1; s <= net.allPoints(); s++) {
                if (enters(l, s)) {
                    entering[s] += by;
                }
            }
        }

        private boolean enters(int l, int set) {
            return (set >> net.head(l) & 1) != 0 && (set >> net.tail(l) & 1) == 0;
        }

        int treeSet(int root, int i) {
            int trees = countFrom(root);
            if (i < 0 || i >= trees) {
                return NONE;
            }
            int left = net.soundSet();
            int tree = 0;
            for (int t = 0; t <= i; t++) {
                left &= ~tree;
                tree = grow(root, left, trees - t - 1);
            }
            return tree;
        }

        private int grow(int root, int left, int toCome) {
            int come = 1 << root;
            int tree = 0;
            for (int count = 1; count < net.points; count++) {
                int l = firstFit(root, come, left, toCome);
                if (l == NONE) {
                    break;
                }
                change(l, -1);
                come |= 1 << net.head(l);
                tree |= 1 << l;
            }
            return tree;
        }

        private int firstFit(int root, int come, int left, int toCome) {
            for (int l = 0; l < net.lines; l++) {
                boolean leads = (left >> l & 1) != 0 && enters(l, net.allPoints() & ~come);
                if (leads && canGo(root, l, toCome)) {
                    return l;
                }
            }
            return NONE;
        }

        // What is left has been rooted by enough so far: only the sets that the line enters can fall short.
        private boolean canGo(int root, int l, int toCome) {
            for (int s = 1; s <= net.allPoints(); s++) {
                if ((s >> root & 1) == 0 && enters(l, s) && entering[s] <= toCome) {
                    return false;
                }
            }
            return true;
        }
    }

    private static final class Easing {
        private final Net net;
        private final int[] queue = new int[MOST_POINTS];
        private final int[] wayTo = new int[MOST_POINTS];

        Easing(Net net) {
            this.net = net;
        }

        int findWay() {
            if (net.points == 0) {
                return 0;
            }
            int start = mostLoaded();
            int enough = net.loadOf(start) - 2;
            int seen = 1 << start;
            queue[0] = start;
            wayTo[start] = 0;
            int queued = 1;
            // The queue stands in the order of the ways, as each point adds its lines in rising order:
            // so the first way found is the shortest, and the least of these.
            for (int i = 0; i < queued && i < MOST_POINTS; i++) {
                int p = queue[i];
                if (net.loadOf(p) <= enough) {
                    return wayTo[p];
                }
                for (int l = 0; l < net.lines && queued < MOST_POINTS; l++) {
                    int next = net.head(l);
                    if (net.isSound(l) && net.tail(l) == p && (seen >> next & 1) == 0) {
                        seen |= 1 << next;
                        wayTo[next] = wayTo[p] | 1 << l;
                        queue[queued] = next;
                        queued++;
                    }
                }
            }
            return 0;
        }

        private int mostLoaded() {
            int best = 0;
            for (int p = 1; p < net.points; p++) {
                if (net.loadOf(p) > net.loadOf(best)) {
                    best = p;
                }
            }
            return best;
        }
    }

    private static final class Game {
        private final Net net;
        private final Tape tape;
        private final int[] forest = new int[2];
        private final int[] told = new int[MOST_LINES];
        private int toldCount;
        private int cut;
        private int kept;

        Game(Net net, Tape tape) {
            this.net = net;
            this.tape = tape;
        }

        int run() {
            if (net.points < 2 || net.k < 2) {
                return NONE;
            }
            forest[0] = net.forestSet(0);
            forest[1] = net.forestSet(1);
            if (net.pieces(forest[0]) != 1 || net.pieces(forest[1]) != 1) {
                return NONE;
            }
            cut = 0;
            kept = 0;
            toldCount = 0;
            for (int i = 0; i < tape.size() && toldCount < MOST_LINES; i++) {
                if (!cutLine(tape.byteAt(i))) {
                    break;
                }
            }
            return toldCount;
        }

        private boolean cutLine(int l) {
            if (!net.hasLine(l) || net.home[l] < 0 || net.home[l] > 1) {
                return false;
            }
            if (((cut | kept) >> l & 1) != 0) {
                return false;
            }
            int one = net.home[l];
            cut |= 1 << l;
            int piece = net.reach(net.first[l], forest[one] & ~cut | kept);
            int answer = firstAcross(forest[1 - one] & ~cut & ~kept, piece);
            told[toldCount] = answer;
            toldCount++;
            if (answer != NONE) {
                kept |= 1 << answer;
            }
            return true;
        }

        private int firstAcross(int lines, int piece) {
            for (int l = 0; l < net.lines; l++) {
                boolean across = (piece >> net.first[l] & 1) != (piece >> net.second[l] & 1);
                if ((lines >> l & 1) != 0 && across) {
                    return l;
                }
            }
            return NONE;
        }

        int toldAt(int i) {
            return i < 0 || i >= toldCount ? NONE : told[i];
        }
    }
}
