import java.util.function.IntSupplier;

/** For each promise: ordinary inputs, the edges that the document names, and wrong inputs, with answers worked by hand. */
public final class PromiseTests {
    private static final int NONE = ForestPacks.NONE;
    private static final int THROWN = Check.THROWN;
    private static final String TRIANGLE = "point a;point b;point c;line a b 5;line b c 2;line a c 9;line a b 3;";
    private static int wrong = 0;
    private static int promise = 0;

    public static void main(String[] args) {
        newObject();
        feedAndEnd();
        netRows();
        netFaults();
        netLimits();
        forests();
        line();
        ring();
        forestAndNow();
        putAndLift();
        placeAndChain();
        chainOfThree();
        crowd();
        pack();
        trade();
        breaksMendWeigh();
        turnLoadEase();
        easeTies();
        game();
        gameRefused();
        undo();
        undoKinds();
        mostFewestTrees();
        thickAndCrowded();
        strength();
        even();
        rootedAndOutTree();
        vital();
        layers();
        light();
        drawn();
        imageAndRestore();
        System.out.println(wrong == 0 ? "promises: all answers are as due" : "promises: " + wrong + " wrong");
        if (wrong != 0) {
            System.exit(1);
        }
    }

    private static void due(String what, int want, int got) {
        if (got != want) {
            wrong++;
            System.out.println("promise " + promise + ", " + what + ": answered " + got + ", due is " + want);
        }
    }

    private static void due(String what, boolean want, boolean got) {
        due(what, want ? 1 : 0, got ? 1 : 0);
    }

    private static int thrown(IntSupplier call) {
        return Check.thrown(call);
    }

    private static void tape(ForestPacks x, String text) {
        Check.tape(x, text);
    }

    private static ForestPacks of(String text) {
        ForestPacks x = new ForestPacks();
        tape(x, text);
        x.net();
        due("fault of " + text, 0, x.fault());
        return x;
    }

    private static void fault(int kind, int place, String text) {
        ForestPacks x = of("point q;");
        tape(x, text);
        due("net() of " + text, -1 - place, x.net());
        due("fault() of " + text, kind, x.fault());
        due("tape after a fault", 0, x.now(8));
        due("points stay after a fault", 1, x.now(0));
    }

    private static void rows(int want, String text) {
        ForestPacks x = new ForestPacks();
        tape(x, text);
        due("net() of " + text, want, x.net());
        due("fault() of " + text, 0, x.fault());
    }

    private static void newObject() {
        promise = 1;
        ForestPacks x = new ForestPacks();
        int[] want = {0, 0, 2, 0, 0, 0, 0, 0, 0};
        for (int i = 0; i < want.length; i++) {
            due("now(" + i + ")", want[i], x.now(i));
        }
        due("fault", 0, x.fault());
        due("crowd", 0, x.crowd());
        due("chainAt", NONE, x.chainAt(0, 0));
        due("keptAt", NONE, x.keptAt(0));
        due("undo", NONE, x.undo());
        due("NONE", -1, ForestPacks.NONE);
    }

    private static void feedAndEnd() {
        promise = 2;
        ForestPacks x = new ForestPacks();
        for (int i = 1; i <= 32; i++) {
            due("feed", 20 * i, x.feed(0, 0, 0, 0, 0));
        }
        due("feed beyond 640", NONE, x.feed(1, 1, 1, 1, 1));
        due("tape", 640, x.now(8));
        due("end", true, x.end(621));
        due("feed beyond 640 by 1", NONE, x.feed(1, 1, 1, 1, 1));
        due("end", true, x.end(620));
        due("feed to 640", 640, x.feed(1, 1, 1, 1, 1));
        promise = 3;
        due("too long", false, x.end(641));
        due("below 0", false, x.end(-1));
        due("as long", true, x.end(640));
        due("tape", 640, x.now(8));
        due("nothing", true, x.end(0));
        due("nothing left", false, x.end(1));
        // "point a;" by its bytes, the highest first
        x.feed(0x706f696e, 0x7420613b, 0, 0, 0);
        due("first bytes", true, x.end(8));
        due("net", 1, x.net());
    }

    private static void netRows() {
        promise = 4;
        rows(0, "");
        rows(0, " \n \n");
        rows(1, "point a;");
        rows(1, "\npoint\na\n;\n");
        rows(3, "point a;point b;line a b 05;");
        rows(3, "point a;point b;line b a 99;");
        rows(4, "forests 5;point abcdefg;point abcdefh;line abcdefg abcdefh 1;");
        rows(1, "forests 01;");
        rows(2, "point points;point lines;");
        rows(3, "point az;point za;line za az 10;");
        ForestPacks x = of(TRIANGLE);
        x.put(0, 0);
        x.breaks(1);
        x.turn(2);
        x.weigh(2, 4);
        x.forests(3);
        tape(x, TRIANGLE);
        due("a new net", 7, x.net());
        due("nothing lies", 0, x.now(4));
        due("all are sound", 4, x.now(3));
        due("K", 2, x.now(2));
        due("nothing to undo", 0, x.now(7));
        due("as told", 9, x.line(2, 2));
        due("turned out of the first", 3, x.load(0));
        tape(x, "forests 4;");
        due("a net without points", 1, x.net());
        due("K as told", 4, x.now(2));
        due("no points", 0, x.now(0));
    }

    private static void netFaults() {
        promise = 5;
        fault(1, 0, "?");
        fault(1, 0, ";");
        fault(1, 0, "5");
        fault(1, 0, "a b;");
        fault(1, 0, "pointa;");
        fault(1, 0, "Point a;");
        fault(1, 5, "point");
        fault(1, 7, "point a");
        fault(1, 9, "point a  ");
        fault(1, 8, "point a point b;");
        fault(1, 6, "point 5;");
        fault(1, 6, "point a5;");
        fault(1, 6, "point abcdefgh;");
        fault(1, 6, "point line;");
        fault(1, 6, "point point;");
        fault(1, 6, "point forests;");
        fault(1, 6, "point \u00e9;");
        fault(1, 5, "point\ta;");
        fault(1, 8, "forests a;");
        fault(1, 8, "forests 100;");
        fault(1, 8, "forests ;");
        fault(1, 9, "forests 2");
        fault(2, 8, "forests 0;");
        fault(2, 8, "forests 6;");
        fault(2, 8, "forests 99;");
        String two = "point a;point b;";
        fault(1, 21, two + "line line b 3;");
        fault(1, 25, two + "line a b ;");
        fault(1, 25, two + "line a b c;");
        fault(1, 25, two + "line a b 3x;");
        fault(1, 27, two + "line a b 3 4;");
        fault(1, 26, two + "line a b 3");
        fault(2, 25, two + "line a b 0;");
        fault(2, 25, two + "line a b 00;");
        fault(3, 21, two + "line c b 3;");
        fault(3, 23, two + "line a c 3;");
        fault(3, 23, two + "line a a 3;");
        fault(3, 22, two + "point a;");
        fault(3, 10, "forests 2;forests 2;");
        fault(3, 10, "forests 2;forests ?");
        fault(3, 13, "point a;line b a 3;point b;");
        ForestPacks x = of(TRIANGLE);
        x.put(0, 0);
        tape(x, "point");
        due("a fault", -6, x.net());
        due("the net stays", 4, x.now(1));
        due("what can be undone stays", 1, x.now(7));
        due("a fault", 1, x.fault());
        x.net();
        due("no fault", 0, x.fault());
    }

    private static void netLimits() {
        promise = 5;
        String ten = "point a;point b;point c;point d;point e;point f;point g;point h;point i;point j;";
        rows(10, ten);
        fault(4, 80, ten + "point k;");
        fault(4, 80, ten + "point");
        fault(4, 82, ten + "  point point;");
        String lines = "point a;point b;" + "line a b 1;".repeat(24);
        rows(26, lines);
        fault(4, 280, lines + "line a b 1;");
        fault(4, 280, lines + "line ?");
        String blanks = " ".repeat(640);
        rows(0, blanks.substring(0, 600));
        fault(1, 600, blanks.substring(0, 601));
        fault(1, 600, blanks.substring(0, 600) + "?");
        fault(1, 599, blanks.substring(0, 599) + "?");
        rows(1, blanks.substring(0, 592) + "point a;");
        fault(1, 600, blanks.substring(0, 593) + "point a;");
        fault(1, 596, blanks.substring(0, 596) + "points");
        fault(1, 595, blanks.substring(0, 595) + "pointed");
        fault(1, 600, blanks.substring(0, 598) + "point a;");
        fault(1, 598, blanks.substring(0, 598) + "pointa;");
        fault(1, 599, blanks.substring(0, 593) + "point abcdefgh;");
        fault(1, 600, blanks.substring(0, 593) + "point abcdefg;");
        fault(1, 599, blanks.substring(0, 593) + "point line;");
        fault(2, 599, blanks.substring(0, 591) + "forests 99;");
        fault(1, 600, blanks.substring(0, 595) + "point");
    }

    private static void forests() {
        promise = 6;
        ForestPacks x = of("forests 3;" + TRIANGLE);
        x.put(0, 0);
        x.put(1, 1);
        x.put(2, 2);
        due("0", NONE, x.forests(0));
        due("6", NONE, x.forests(6));
        due("it is so", NONE, x.forests(3));
        due("acts", 3, x.now(7));
        due("more", 0, x.forests(5));
        due("K", 5, x.now(2));
        due("fewer", 2, x.forests(1));
        due("there yet", 0, x.line(0, 3));
        due("lifted", NONE, x.line(1, 3));
        due("lifted", NONE, x.line(2, 3));
        due("undone", 4, x.undo());
        due("there again", 2, x.line(2, 3));
        due("K", 5, x.now(2));
        due("undone", 3, x.undo());
        due("K", 3, x.now(2));
    }

    private static void line() {
        promise = 7;
        ForestPacks x = of("point b;point a;line a b 7;");
        due("first", 1, x.line(0, 0));
        due("second", 0, x.line(0, 1));
        due("weight", 7, x.line(0, 2));
        due("forest", NONE, x.line(0, 3));
        due("broken", 0, x.line(0, 4));
        x.turn(0);
        due("first, turned", 1, x.line(0, 0));
        x.put(0, 1);
        due("forest", 1, x.line(0, 3));
        x.breaks(0);
        due("forest", NONE, x.line(0, 3));
        due("broken", 1, x.line(0, 4));
        due("no such what", THROWN, thrown(() -> x.line(0, 5)));
        due("no such what", THROWN, thrown(() -> x.line(0, -1)));
        due("no such line", THROWN, thrown(() -> x.line(1, 0)));
        due("no such line", THROWN, thrown(() -> x.line(-1, 0)));
        due("no such line", THROWN, thrown(() -> x.line(Integer.MIN_VALUE, 0)));
    }

    private static void ring() {
        promise = 8;
        ForestPacks x = of(TRIANGLE);
        x.put(0, 0);
        x.put(1, 0);
        due("over two", 3, x.ring(2, 0));
        due("over one", 1, x.ring(3, 0));
        due("none there", 0, x.ring(2, 1));
        due("of a line of another forest", 0, x.ring(0, 1));
        x.put(3, 1);
        due("of a line of another forest", 8, x.ring(0, 1));
        due("lies there", THROWN, thrown(() -> x.ring(0, 0)));
        due("no such forest", THROWN, thrown(() -> x.ring(0, 2)));
        due("no such forest", THROWN, thrown(() -> x.ring(0, -1)));
        due("no such line", THROWN, thrown(() -> x.ring(4, 0)));
        due("no such line", THROWN, thrown(() -> x.ring(-1, 0)));
        x.breaks(2);
        due("broken", THROWN, thrown(() -> x.ring(2, 0)));
    }

    private static void forestAndNow() {
        promise = 9;
        ForestPacks x = of(TRIANGLE + "point d;");
        x.put(0, 0);
        x.put(1, 0);
        x.put(3, 1);
        due("forest 0", 3, x.forest(0));
        due("forest 1", 8, x.forest(1));
        due("no such one", NONE, x.forest(2));
        due("no such one", NONE, x.forest(-1));
        promise = 10;
        x.breaks(1);
        int[] want = {4, 4, 2, 3, 2, 2, 3, 4, 0};
        for (int i = 0; i < want.length; i++) {
            due("now(" + i + ")", want[i], x.now(i));
        }
        due("another what", NONE, x.now(9));
        due("another what", NONE, x.now(-1));
    }

    private static void putAndLift() {
        promise = 11;
        ForestPacks x = of(TRIANGLE);
        due("put", 0, x.put(0, 1));
        due("lies there", 2, x.put(0, 1));
        due("lies in another one", 2, x.put(0, 0));
        due("a ring", 3, x.put(3, 1));
        due("none there", 0, x.put(3, 0));
        x.breaks(1);
        due("broken", 1, x.put(1, 0));
        due("no such forest", NONE, x.put(2, 2));
        due("no such forest", NONE, x.put(2, -1));
        due("no such line", NONE, x.put(4, 0));
        due("no such line", NONE, x.put(-1, 0));
        promise = 12;
        due("acts", 3, x.now(7));
        due("lift", 1, x.lift(0));
        due("lies in none", NONE, x.lift(0));
        due("broken", NONE, x.lift(1));
        due("no such one", NONE, x.lift(4));
        due("no such one", NONE, x.lift(-1));
        due("acts", 4, x.now(7));
        due("lift", 0, x.lift(3));
    }

    private static void placeAndChain() {
        promise = 13;
        ForestPacks x = of("point a;point b;point c;point d;line a b 1;line a b 1;line b c 1;line c d 1;line a b 1;");
        x.put(0, 0);
        x.put(2, 1);
        x.put(3, 1);
        promise = 14;
        due("chain", 1, x.chain(1));
        due("nothing is done", NONE, x.line(1, 3));
        due("acts", 3, x.now(7));
        due("lies in a forest", NONE, x.chain(0));
        due("no such one", NONE, x.chain(5));
        due("no such one", NONE, x.chain(-1));
        promise = 13;
        due("place", 1, x.place(1));
        due("forest", 1, x.line(1, 3));
        due("lies in a forest", NONE, x.place(1));
        due("no such one", NONE, x.place(5));
        due("no such one", NONE, x.place(-1));
        due("blocked", 0, x.place(4));
        due("acts", 4, x.now(7));
        x.breaks(4);
        due("broken", NONE, x.place(4));
        due("broken", NONE, x.chain(4));
        promise = 15;
        due("the line", 1, x.chainAt(0, 0));
        due("the forest", 1, x.chainAt(0, 1));
        due("no more", NONE, x.chainAt(1, 0));
        due("no such i", NONE, x.chainAt(-1, 0));
        due("no such what", NONE, x.chainAt(0, 2));
        due("no such what", NONE, x.chainAt(0, -1));
    }

    /** 0: a-b, b-c in forest 0 ; 1: a-b and a-c ; the parallel line has to push two of them on. */
    private static void chainOfThree() {
        promise = 15;
        ForestPacks x = of("point a;point b;point c;point d;line a b 1;line a b 1;line b c 1;line c d 1;line b c 1;line c d 1;line a d 1;");
        x.put(0, 0);
        x.put(2, 0);
        x.put(4, 1);
        x.put(5, 1);
        x.put(6, 1);
        due("the least of two ways", 2, x.chain(1));
        due("first", 1, x.chainAt(0, 0));
        due("into", 1, x.chainAt(0, 1));
        due("then the least on the ring", 5, x.chainAt(1, 0));
        due("into", 0, x.chainAt(1, 1));
        due("placed", 2, x.place(1));
        due("forest 0", 0b100101, x.forest(0));
        due("forest 1", 0b1010010, x.forest(1));
        due("pack tells nothing of it", 0, x.pack());
        due("as told", 5, x.chainAt(1, 0));
        ForestPacks y = of("forests 3;point a;point b;point c;line a b 1;line a b 1;line b c 1;line a c 1;line b c 1;line a b 1;");
        y.put(0, 0);
        y.put(1, 1);
        due("the least forest", 1, y.place(5));
        due("into", 2, y.chainAt(0, 1));
    }

    private static void crowd() {
        promise = 16;
        ForestPacks x = of("point a;point b;point c;line a b 1;line a b 1;line a b 1;line b c 1;line b c 1;");
        x.put(0, 0);
        x.put(1, 1);
        x.put(3, 0);
        due("blocked", 0, x.chain(2));
        due("crowd", 3, x.crowd());
        due("not blocked", 1, x.place(4));
        due("crowd stays", 3, x.crowd());
        due("K 1", 2, x.forests(1));
        due("blocked", 0, x.place(4));
        due("crowd", 6, x.crowd());
        x.chain(0);
        due("lies: crowd stays", 6, x.crowd());
    }

    private static void pack() {
        promise = 17;
        ForestPacks x = of("point a;point b;point c;line a b 1;line a b 1;line a b 1;line b c 1;line b c 1;");
        x.breaks(3);
        due("packed", 3, x.pack());
        due("forest 0", 0b10001, x.forest(0));
        due("forest 1", 0b00010, x.forest(1));
        due("no more", 0, x.pack());
        due("acts", 2, x.now(7));
        due("undone at once", 1, x.undo());
        due("none lies", 0, x.now(4));
        due("chains not told", NONE, x.chainAt(0, 0));
        due("crowd not told", 0, x.crowd());
    }

    private static void trade() {
        promise = 18;
        ForestPacks x = of(TRIANGLE);
        x.put(0, 0);
        x.put(1, 0);
        x.put(2, 1);
        due("too few there", NONE, x.trade(0, 1));
        due("too few here", NONE, x.trade(2, 0));
        x.put(3, 1);
        due("lies there", NONE, x.trade(0, 0));
        due("no such forest", NONE, x.trade(0, 2));
        due("no such forest", NONE, x.trade(0, -1));
        due("no such line", NONE, x.trade(4, 1));
        due("no such line", NONE, x.trade(-1, 1));
        due("acts", 4, x.now(7));
        due("trade", 2, x.trade(1, 1));
        due("forest 0", 5, x.forest(0));
        due("forest 1", 10, x.forest(1));
        due("not each one will do", 3, x.trade(0, 1));
        due("forest 0", 12, x.forest(0));
        due("undone", 5, x.undo());
        due("forest 0", 5, x.forest(0));
        x.forests(3);
        due("lies in none, an empty one", NONE, x.trade(0, 2));
        x.lift(0);
        due("lies in none", NONE, x.trade(0, 1));
    }

    private static void breaksMendWeigh() {
        promise = 19;
        ForestPacks x = of(TRIANGLE);
        x.put(0, 0);
        due("broken", 0, x.breaks(0));
        due("lifted", NONE, x.line(0, 3));
        due("it is", 1, x.breaks(0));
        due("no such one", NONE, x.breaks(4));
        due("no such one", NONE, x.breaks(-1));
        due("acts", 2, x.now(7));
        promise = 20;
        due("sound", 1, x.mend(1));
        due("no such one", NONE, x.mend(4));
        due("no such one", NONE, x.mend(-1));
        due("mended", 0, x.mend(0));
        due("lies in none", NONE, x.line(0, 3));
        due("sound", 0, x.line(0, 4));
        due("acts", 3, x.now(7));
        promise = 21;
        due("it has that", 1, x.weigh(0, 5));
        due("weighed", 0, x.weigh(0, 99));
        due("weight", 99, x.line(0, 2));
        due("too little", NONE, x.weigh(0, 0));
        due("too much", NONE, x.weigh(0, 100));
        due("no such one", NONE, x.weigh(4, 1));
        due("no such one", NONE, x.weigh(-1, 1));
        x.breaks(0);
        due("a broken one", 0, x.weigh(0, 1));
        due("acts", 6, x.now(7));
    }

    private static void turnLoadEase() {
        promise = 22;
        ForestPacks x = of(TRIANGLE);
        due("turned", 1, x.turn(0));
        due("turned back", 0, x.turn(0));
        due("no such one", NONE, x.turn(4));
        due("no such one", NONE, x.turn(-1));
        promise = 23;
        due("load", 3, x.load(0));
        due("load", 1, x.load(1));
        due("load", 0, x.load(2));
        due("no such one", NONE, x.load(3));
        due("no such one", NONE, x.load(-1));
        x.breaks(2);
        due("broken ones don't count", 2, x.load(0));
        due("a broken one is turned", 2, x.turn(2));
        due("nor then", 0, x.load(2));
        x.mend(2);
        due("turned as it was", 1, x.load(2));
        promise = 24;
        ForestPacks y = of("point a;point b;point c;point d;line a b 1;line a b 1;line a b 1;line b c 1;line b c 1;line c d 1;");
        due("loads", 3, y.load(0));
        due("the nearest that has less by 2", 2, y.ease());
        due("load", 2, y.load(0));
        due("load", 2, y.load(1));
        due("load", 2, y.load(2));
        due("acts", 1, y.now(7));
        due("from the least point", 3, y.ease());
        due("load", 1, y.load(0));
        due("load", 1, y.load(3));
        due("no way", 0, y.ease());
        due("acts", 2, y.now(7));
        due("no points", 0, new ForestPacks().ease());
    }

    /** Two ways of like length: by the lower line first, though its end has the higher number. */
    private static void easeTies() {
        promise = 24;
        ForestPacks x = of("point a;point b;point c;line a c 1;line a b 1;");
        due("one line", 1, x.ease());
        due("the least line", 1, x.load(2));
        due("not the other", 0, x.load(1));
        ForestPacks y = of("point a;point b;point c;line b a 1;line c a 1;line b a 1;line c a 1;");
        due("the least of like ones", 1, y.ease());
        due("eased", 1, y.load(1));
        ForestPacks z = of("point a;point b;line a b 1;");
        due("less by 1 alone", 0, z.ease());
        z.breaks(0);
        ForestPacks w = of("point a;point b;point c;line a b 1;line a b 1;line a b 1;line a c 1;");
        w.breaks(3);
        due("not along broken ones", 1, w.ease());
        due("eased", 1, w.load(1));
    }

    private static void game() {
        promise = 25;
        String square = "point a;point b;point c;line a b 1;line b c 1;line a b 1;line b c 1;line a c 1;";
        ForestPacks x = of(square);
        x.put(0, 0);
        x.put(1, 0);
        x.put(2, 1);
        x.put(3, 1);
        tape(x, "\0\1\0");
        due("both lines are cut, a line cut ahead ends it", 2, x.game());
        due("the tape is empty", 0, x.now(8));
        promise = 26;
        due("kept", 2, x.keptAt(0));
        due("kept", 3, x.keptAt(1));
        due("no more", NONE, x.keptAt(2));
        due("no such i", NONE, x.keptAt(-1));
        promise = 25;
        tape(x, "\0\2\1");
        due("a kept one ends it", 1, x.game());
        due("only one now", NONE, x.keptAt(1));
        tape(x, "\3\4\1");
        due("a line of neither ends it", 1, x.game());
        due("kept in the other forest", 1, x.keptAt(0));
        tape(x, "\u00ff");
        due("no line ends it", 0, x.game());
        due("none kept", NONE, x.keptAt(0));
        due("nothing told", 0, x.game());
        due("forests stay", 3, x.forest(0));
        ForestPacks y = of("point a;point b;point c;line a b 1;line b c 1;line a c 1;line b c 1;");
        y.put(0, 0);
        y.put(1, 0);
        y.put(2, 1);
        y.put(3, 1);
        tape(y, "\1\0");
        due("two", 2, y.game());
        due("the first that joins both pieces", 2, y.keptAt(0));
        due("with those that were kept", 3, y.keptAt(1));
    }

    private static void gameRefused() {
        promise = 25;
        ForestPacks x = of(TRIANGLE);
        x.put(0, 0);
        x.put(1, 0);
        x.put(2, 1);
        due("forest 1 does not join all", NONE, x.game());
        x.put(3, 1);
        tape(x, "\0");
        due("one", 1, x.game());
        due("kept", 2, x.keptAt(0));
        x.lift(0);
        due("forest 0 does not join all", NONE, x.game());
        promise = 26;
        due("as by the latest that was not NONE", 2, x.keptAt(0));
        promise = 25;
        x.forests(1);
        due("one forest alone", NONE, x.game());
        due("one point alone", NONE, of("point a;").game());
        due("no points", NONE, new ForestPacks().game());
    }

    private static void undo() {
        promise = 27;
        ForestPacks x = of(TRIANGLE);
        for (int i = 1; i <= 10; i++) {
            x.weigh(0, 10 + i);
            due("acts", Math.min(8, i), x.now(7));
        }
        due("not an act", 1, x.weigh(0, 20));
        for (int i = 7; i >= 0; i--) {
            due("undo", i, x.undo());
            due("weight", 12 + i, x.line(0, 2));
        }
        due("no more", NONE, x.undo());
        due("weight", 12, x.line(0, 2));
    }

    private static void undoKinds() {
        promise = 27;
        ForestPacks x = of("point a;point b;line a b 1;line a b 1;line a b 1;line a b 1;line a b 1;");
        x.put(0, 0);
        x.put(1, 1);
        x.trade(0, 1);
        x.turn(1);
        x.breaks(2);
        x.mend(2);
        x.lift(0);
        x.place(0);
        due("acts", 8, x.now(7));
        due("undo place", 7, x.undo());
        due("lies in none", NONE, x.line(0, 3));
        due("undo lift", 6, x.undo());
        due("there again", 1, x.line(0, 3));
        due("undo mend", 5, x.undo());
        due("broken", 1, x.line(2, 4));
        due("undo breaks", 4, x.undo());
        due("sound", 0, x.line(2, 4));
        due("undo turn", 3, x.undo());
        due("load", 5, x.load(0));
        due("undo trade", 2, x.undo());
        due("there again", 0, x.line(0, 3));
        due("ease", 1, x.ease());
        due("undo ease", 2, x.undo());
        due("load", 5, x.load(0));
        due("blocked", 0, x.place(2));
        due("no chain alone", 0, x.chain(2));
        due("acts", 2, x.now(7));
        due("a fewer", 1, x.forests(1));
        due("undo forests", 2, x.undo());
        due("there again", 1, x.line(1, 3));
    }

    private static void mostFewestTrees() {
        promise = 28;
        ForestPacks x = of("point a;point b;point c;line a b 1;line a b 1;line a b 1;line b c 1;");
        int[] most = {0, 2, 3, 4, 4};
        for (int k = 0; k < most.length; k++) {
            due("most(" + k + ")", most[k], x.most(k));
        }
        due("most(24)", 4, x.most(24));
        due("too many", NONE, x.most(25));
        due("below 0", NONE, x.most(-1));
        promise = 29;
        due("fewest", 3, x.fewest());
        x.breaks(0);
        due("of sound lines alone", 2, x.fewest());
        due("most", 3, x.most(2));
        promise = 30;
        due("trees", 1, x.trees());
        x.breaks(3);
        due("a point apart", 0, x.trees());
        x.breaks(1);
        x.breaks(2);
        promise = 29;
        due("no sound lines", 0, x.fewest());
        promise = 30;
        due("one point", NONE, of("point a;").trees());
        due("two points", 24, of("point a;point b;" + "line a b 1;".repeat(24)).trees());
    }

    private static void thickAndCrowded() {
        promise = 31;
        ForestPacks x = of("point a;point b;point c;point d;line c d 1;line c d 1;line b d 1;line a b 1;line a c 1;");
        due("above", 2, x.thick(0));
        due("below", 1, x.thick(1));
        due("the fewest points", 0b1100, x.thick(2));
        due("another what", NONE, x.thick(3));
        due("another what", NONE, x.thick(-1));
        x.breaks(0);
        due("least terms", 4, x.thick(0));
        due("least terms", 3, x.thick(1));
        due("all", 15, x.thick(2));
        x.breaks(4);
        due("the least of like ones", 0b0011, x.thick(2));
        for (int l = 0; l < 5; l++) {
            x.breaks(l);
        }
        due("0", 0, x.thick(0));
        due("by 1", 1, x.thick(1));
        due("the least set", 3, x.thick(2));
        due("one point", NONE, of("point a;").thick(0));
        promise = 32;
        ForestPacks y = of("point a;point b;point c;point d;line c d 1;line c d 1;line b d 1;line a b 1;line a b 1;");
        due("all lines, the fewest points", 15, y.crowded(0));
        due("of like ones the fewest points: not 2 above 1 * 3 but 1 above 1", 15, y.crowded(1));
        due("none", 0, y.crowded(2));
        due("too many", NONE, y.crowded(25));
        due("below 0", NONE, y.crowded(-1));
        due("the most", 0, y.crowded(24));
        y.breaks(2);
        due("both together are not more", 3, y.crowded(1));
        due("no points", 0, new ForestPacks().crowded(0));
        y.breaks(3);
        y.breaks(4);
        due("the fewest points", 12, y.crowded(0));
    }

    private static void strength() {
        promise = 33;
        ForestPacks x = of("point a;point b;point c;point d;line a b 1;line b c 1;line c d 1;line d a 1;");
        due("above", 4, x.strength(0));
        due("below", 3, x.strength(1));
        due("pieces", 4, x.strength(2));
        due("another what", NONE, x.strength(3));
        due("another what", NONE, x.strength(-1));
        x.breaks(0);
        due("one by one", 1, x.strength(0));
        due("one by one", 1, x.strength(1));
        due("the fewest pieces", 2, x.strength(2));
        x.breaks(1);
        x.breaks(2);
        due("0", 0, x.strength(0));
        due("by 1", 1, x.strength(1));
        due("two of any pieces", 2, x.strength(2));
        due("one point", NONE, of("point a;").strength(0));
    }

    private static void even() {
        promise = 34;
        ForestPacks x = of("point a;point b;point c;line a b 1;line a b 1;line a b 1;line b c 1;");
        due("3 by 2", 2, x.even());
        x.breaks(0);
        due("2 by 2", 1, x.even());
        x.breaks(1);
        x.breaks(2);
        due("1 by 2", 1, x.even());
        x.breaks(3);
        due("none", 0, x.even());
        due("one point", 0, of("point a;").even());
    }

    private static void rootedAndOutTree() {
        promise = 35;
        ForestPacks x = of("point a;point b;point c;line a b 1;line a b 1;line b c 1;line a c 1;line c b 1;");
        due("from a", 2, x.rooted(0));
        due("from b", 0, x.rooted(1));
        due("no such one", NONE, x.rooted(3));
        due("no such one", NONE, x.rooted(-1));
        due("one point", NONE, of("point a;").rooted(0));
        promise = 36;
        due("the first tree", 0b00101, x.outTree(0, 0));
        due("the second tree", 0b01010, x.outTree(0, 1));
        due("no third", NONE, x.outTree(0, 2));
        due("no such i", NONE, x.outTree(0, -1));
        due("no such one", NONE, x.outTree(3, 0));
        due("no such one", NONE, x.outTree(-1, 0));
        due("none from b", NONE, x.outTree(1, 0));
        due("one point", NONE, of("point a;").outTree(0, 0));
        x.breaks(0);
        due("of sound lines alone", 2, x.rooted(0));
        x.turn(3);
        due("as turned", 1, x.rooted(0));
        due("one tree", 0b00110, x.outTree(0, 0));
        ForestPacks y = of("point a;point b;point c;line a b 1;line b c 1;line b c 1;line a b 1;");
        due("not the first line if that leaves too little", 0b00011, y.outTree(0, 0));
        due("what is left", 0b01100, y.outTree(0, 1));
    }

    private static void vital() {
        promise = 37;
        ForestPacks x = of("point a;point b;point c;line a b 1;line a b 1;line a b 1;line b c 1;");
        due("the crowd can do without", 0b1000, x.vital());
        x.forests(3);
        due("all", 0b1111, x.vital());
        x.breaks(3);
        due("sound ones alone", 0b0111, x.vital());
        x.forests(1);
        due("none", 0, x.vital());
    }

    private static void layers() {
        promise = 38;
        ForestPacks x = of("point a;point b;point c;point d;point e;line c d 1;line c d 1;line c d 1;line a c 1;line b d 1;line a b 1;");
        due("layers", 2, x.layers());
        promise = 39;
        due("above", 3, x.layerAt(0, 0));
        due("below", 1, x.layerAt(0, 1));
        due("set", 0b01100, x.layerAt(0, 2));
        due("above", 3, x.layerAt(1, 0));
        due("below", 2, x.layerAt(1, 1));
        due("all that are one", 0b01111, x.layerAt(1, 2));
        due("no more", NONE, x.layerAt(2, 2));
        due("no such i", NONE, x.layerAt(-1, 2));
        due("no such what", NONE, x.layerAt(0, 3));
        due("no such what", NONE, x.layerAt(0, -1));
        x.breaks(0);
        x.breaks(1);
        x.breaks(2);
        promise = 38;
        due("as long as there are lines", 3, x.layers());
        promise = 39;
        due("the least of like ones", 0b00011, x.layerAt(0, 2));
        due("those that are one count as the least", 0b00111, x.layerAt(1, 2));
        due("the last", 0b01111, x.layerAt(2, 2));
        promise = 38;
        due("no points", 0, new ForestPacks().layers());
    }

    private static void light() {
        promise = 40;
        ForestPacks x = of("point a;point b;point c;line a b 5;line b c 2;line a c 2;line a b 2;line b c 9;");
        due("weights", 4, x.light(1, 0));
        due("of like ones by number", 0b00110, x.light(1, 1));
        due("weights", 11, x.light(2, 0));
        due("lines", 0b01111, x.light(2, 1));
        due("weights", 20, x.light(3, 0));
        due("none", 0, x.light(0, 0));
        due("none", 0, x.light(0, 1));
        due("all", 20, x.light(24, 0));
        due("too many", NONE, x.light(25, 0));
        due("below 0", NONE, x.light(-1, 0));
        due("no such what", NONE, x.light(1, 2));
        due("no such what", NONE, x.light(1, -1));
        x.breaks(1);
        due("sound ones alone", 0b01100, x.light(1, 1));
    }

    private static void drawn() {
        promise = 41;
        ForestPacks x = of("point a;point b;line a b 1;");
        due("none", NONE, x.drawn(0, 1));
        due("too many", NONE, x.drawn(61, 1));
        for (int seed = -20; seed < 20; seed++) {
            int kind = (seed * 1103515245 + 12345 >>> 8) % 6;
            due("a draw of 6 is " + kind, kind == 2 || kind == 5 ? 0 : 1, x.drawn(1, seed));
            due("a line that lies in no forest is broken by a 3 alone", kind == 3 ? 1 : 0, x.line(0, 4));
            due("one act, or none", x.now(4) + x.line(0, 4), x.now(7));
            x.undo();
        }
        ForestPacks y = of(TRIANGLE);
        int many = y.drawn(60, 99);
        due("all by one act", many > 0 ? 1 : 0, y.now(7));
        due("chains not told", NONE, y.chainAt(0, 0));
        y.undo();
        due("all undone", 4, y.now(3));
        due("none lies", 0, y.now(4));
        due("the same again", many, y.drawn(60, 99));
        due("no lines", 0, of("point a;").drawn(60, 3));
    }

    private static void imageAndRestore() {
        promise = 42;
        ForestPacks x = of("forests 3;" + TRIANGLE);
        due("no such one", false, x.image(2));
        due("no such one", false, x.image(-1));
        x.put(0, 2);
        x.breaks(1);
        x.turn(2);
        x.weigh(3, 44);
        x.chain(2);
        due("kept", true, x.image(1));
        promise = 43;
        due("nothing there", false, x.restore(0));
        due("no such one", false, x.restore(2));
        due("no such one", false, x.restore(-1));
        due("acts", 4, x.now(7));
        tape(x, "point z;");
        x.net();
        tape(x, "abc");
        due("restored", true, x.restore(1));
        due("points", 3, x.now(0));
        due("K", 3, x.now(2));
        due("forest", 2, x.line(0, 3));
        due("broken", 1, x.line(1, 4));
        due("turned", 1, x.load(2));
        due("weight", 44, x.line(3, 2));
        due("the tape stays", 3, x.now(8));
        due("what was told stays", 2, x.chainAt(0, 0));
        due("nothing can be undone", NONE, x.undo());
        x.lift(0);
        due("kept anew", true, x.image(1));
        x.put(0, 0);
        due("restored", true, x.restore(1));
        due("as kept anew", NONE, x.line(0, 3));
        due("again", true, x.restore(1));
        due("nothing in the other place", false, x.restore(0));
    }
}
