/** The text of a net and its faults, the tape, a new object: promises 1 to 5, sentence by sentence. */
public final class TextTests {
    private static final String TWO = "point a;point b;";
    private static final String TEN = "point a;point b;point c;point d;point e;point f;point g;point h;point i;point j;";
    private static final String LINES = TWO + "line a b 1;".repeat(24);

    public static void main(String[] args) {
        newObject();
        feed();
        end();
        net();
        signs();
        tokens();
        rowsOfTheNet();
        limitsOfTheNet();
        faultsByToken();
        faultsAlong();
        leastOfOneToken();
        theEnd();
        sixHundred();
        readWhole();
        kinds();
        Check.end("texts");
    }

    private static void rows(int want, String text) {
        ForestPacks x = new ForestPacks();
        Check.tape(x, text);
        Check.due("net() of " + shown(text), want, x.net());
        Check.due("fault() of " + shown(text), 0, x.fault());
        Check.due("tape behind " + shown(text), 0, x.now(8));
    }

    private static void fault(int kind, int place, String text) {
        ForestPacks x = Check.net(3, 3, "ab5 bc2");
        Check.into(x, 2, 1);
        x.turn(0);
        String ahead = Check.netOf(x) + x.now(7);
        Check.tape(x, text);
        Check.due("net() of " + shown(text), -1 - place, x.net());
        Check.due("fault() of " + shown(text), kind, x.fault());
        Check.due("tape behind " + shown(text), 0, x.now(8));
        Check.due("it stays behind " + shown(text), ahead, Check.netOf(x) + x.now(7));
    }

    private static String shown(String text) {
        return text.length() < 60 ? text : text.length() + " bytes .." + text.substring(text.length() - 40);
    }

    private static String blanks(int n) {
        return " ".repeat(n);
    }

    private static void newObject() {
        Check.says("1: a NET without POINTS, K 2; an empty tape", () -> {
            ForestPacks x = new ForestPacks();
            Check.due("points", 0, x.now(0));
            Check.due("lines", 0, x.now(1));
            Check.due("K", 2, x.now(2));
            Check.due("tape", 0, x.now(8));
            Check.due("forest 1", 0, x.forest(1));
            Check.due("forest 2", -1, x.forest(2));
            Check.due("pieces", 0, x.now(5) + x.now(6));
        });
        Check.says("1: an empty tape tells a NET without ROWS", () -> Check.due("net()", 0, new ForestPacks().net()));
        Check.says("5: FAULT 0 ahead of any", () -> Check.due("fault()", 0, new ForestPacks().fault()));
        Check.says("27: nothing can be undone in a new object", () -> Check.idle(new ForestPacks(), "undo()", -1, new ForestPacks()::undo));
        Check.says("NONE is -1", () -> Check.due("NONE", -1, ForestPacks.NONE));
    }

    private static void feed() {
        Check.says("2: twenty bytes come behind the tape", () -> {
            ForestPacks x = new ForestPacks();
            for (int i = 1; i <= 32; i++) {
                Check.due("feed()", 20 * i, x.feed(i, i, i, i, i));
                Check.due("now(8)", 20 * i, x.now(8));
            }
        });
        Check.says("2: of each number the highest first", () -> {
            ForestPacks x = new ForestPacks();
            x.feed(0x666f7265, 0x73747320, 0x353b706f, 0x696e7420, 0x6162633b);
            Check.due("forests 5;point abc;", 2, x.net());
            Check.due("K", 5, x.now(2));
            Check.due("points", 1, x.now(0));
        });
        Check.says("2: behind what it has, be that cut or not", () -> {
            ForestPacks x = new ForestPacks();
            x.feed(0x666f7265, 0x73747320, 0x35000000, 0, 0);
            x.end(9);
            Check.due("feed()", 29, x.feed(0x3b706f69, 0x6e742061, 0x3b000000, 0, 0));
            x.end(18);
            Check.due("forests 5;point a;", 2, x.net());
        });
        Check.says("2: NONE, and none come, if it would have more than 640", () -> {
            for (int had = 621; had <= 640; had++) {
                ForestPacks x = new ForestPacks();
                Check.tape(x, "forests 4;" + blanks(630));
                x.end(had);
                Check.idle(x, "feed() behind " + had, -1, () -> x.feed(0x706f696e, 0x7420613b, 0, 0, 0));
                x.end(600);
                Check.due("as it was", 1, x.net());
            }
        });
        Check.says("2: 640 are not more than 640", () -> {
            ForestPacks x = new ForestPacks();
            Check.tape(x, blanks(620));
            Check.due("feed()", 640, x.feed(1, 2, 3, 4, 5));
        });
        Check.says("2: a number below 0 has its bytes too", () -> {
            ForestPacks x = new ForestPacks();
            x.feed(-1, Integer.MIN_VALUE, Integer.MAX_VALUE, -2, 0x20202020);
            Check.due("bytes", 20, x.now(8));
            Check.due("net()", -1, x.net());
        });
    }

    private static void end() {
        Check.says("3: the tape has its first n bytes alone: true", () -> {
            ForestPacks x = new ForestPacks();
            Check.tape(x, "forests 5;forests 4;");
            Check.due("end(10)", true, x.end(10));
            Check.due("bytes", 10, x.now(8));
            Check.due("net()", 1, x.net());
            Check.due("K", 5, x.now(2));
        });
        Check.says("3: all of it, or none of it, too", () -> {
            ForestPacks x = new ForestPacks();
            Check.due("end(0) of nothing", true, x.end(0));
            x.feed(0, 0, 0, 0, 0);
            Check.due("end(20)", true, x.end(20));
            Check.due("bytes", 20, x.now(8));
            Check.due("end(0)", true, x.end(0));
            Check.due("bytes", 0, x.now(8));
        });
        Check.says("3: false, if it has not so many", () -> {
            ForestPacks x = new ForestPacks();
            Check.idle(x, "end(1) of nothing", false, () -> Check.bit(x.end(1)));
            x.feed(0, 0, 0, 0, 0);
            x.end(7);
            Check.idle(x, "end(8) of 7", false, () -> Check.bit(x.end(8)));
            Check.idle(x, "end(MAX)", false, () -> Check.bit(x.end(Integer.MAX_VALUE)));
        });
        Check.says("3: false, if n is below 0", () -> {
            ForestPacks x = new ForestPacks();
            x.feed(0, 0, 0, 0, 0);
            Check.idle(x, "end(-1)", false, () -> Check.bit(x.end(-1)));
            Check.idle(x, "end(MIN)", false, () -> Check.bit(x.end(Integer.MIN_VALUE)));
        });
    }

    private static void net() {
        Check.says("4: how many ROWS", () -> {
            rows(0, "");
            rows(1, "forests 3;");
            rows(3, TWO + "line b a 4;");
            rows(35, "forests 5;" + TEN + "line a b 1;".repeat(24));
        });
        Check.says("4: the tape is empty then, even with a FAULT", () -> {
            ForestPacks x = new ForestPacks();
            Check.tape(x, "point a;?");
            Check.due("net()", -9, x.net());
            Check.due("bytes", 0, x.now(8));
            Check.due("net() of nothing", 0, x.net());
        });
        Check.says("4: -1 less the place of a FAULT, the first and the last place", () -> {
            fault(1, 0, "?");
            fault(1, 600, blanks(640));
        });
        Check.says("4: it stays, and what can be undone, and what calls told", () -> {
            ForestPacks x = Check.net(2, 3, "ab ab bc");
            x.chain(0);
            x.place(0);
            x.breaks(2);
            Check.tape(x, "point z");
            String ahead = Check.netOf(x) + x.now(7) + x.chainAt(0, 0);
            Check.due("net()", -8, x.net());
            Check.due("all", ahead, Check.netOf(x) + x.now(7) + x.chainAt(0, 0));
            Check.due("undo()", 1, x.undo());
            Check.due("sound again", 0, x.line(2, 4));
        });
        Check.says("a new NET: all LINES are SOUND and lie in none", () -> {
            ForestPacks x = Check.net(5, 3, "ab ab bc");
            Check.into(x, 0, 0);
            x.breaks(1);
            Check.tell(x, Check.text(5, 3, "ab ab bc"));
            Check.due("sound", 3, x.now(3));
            Check.due("in forests", 0, x.now(4));
        });
        Check.says("a new NET: nothing can be undone", () -> {
            ForestPacks x = Check.net(5, 3, "ab ab bc");
            x.turn(0);
            Check.tape(x, "point a;");
            x.net();
            Check.idle(x, "undo()", -1, x::undo);
        });
        Check.says("a new NET without ROWS: nothing can be undone either", () -> {
            ForestPacks x = Check.net(5, 3, "ab ab bc");
            x.turn(0);
            Check.due("net()", 0, x.net());
            Check.due("points, lines, K, acts", "0 0 2 0", x.now(0) + " " + x.now(1) + " " + x.now(2) + " " + x.now(7));
        });
        Check.says("a new NET: each LINE is at first TURNED out of its first POINT", () -> {
            ForestPacks x = Check.net(2, 2, "ba");
            x.turn(0);
            Check.due("load", 1, x.load(0));
            Check.tell(x, Check.text(2, 2, "ba"));
            Check.due("load", 1, x.load(1));
        });
        Check.says("a new NET: WEIGHTS and K are as it tells", () -> {
            ForestPacks x = Check.net(2, 2, "ba7");
            x.weigh(0, 9);
            x.forests(5);
            Check.tell(x, TWO + "line b a 7;");
            Check.due("weight", 7, x.line(0, 2));
            Check.due("K", 2, x.now(2));
        });
    }

    private static void signs() {
        Check.says("blanks are 32, 10, and no other sign", () -> {
            for (int sign = 0; sign < 256; sign++) {
                String text = "point" + (char) sign + "a;";
                if (sign == 32 || sign == 10) {
                    rows(1, text);
                } else {
                    boolean run = sign >= 'a' && sign <= 'z' || sign >= '0' && sign <= '9';
                    fault(1, run ? 0 : 5, text);
                }
            }
        });
        Check.says("small letters, and no other sign, make a WORD", () -> {
            for (int sign = 0; sign < 256; sign++) {
                String text = "point " + (char) sign + ";";
                if (sign >= 'a' && sign <= 'z') {
                    rows(1, text);
                } else {
                    fault(1, sign == 32 || sign == 10 ? 7 : 6, text);
                }
            }
        });
        Check.says("digits, and no other sign, make a NUMBER", () -> {
            for (int sign = 0; sign < 256; sign++) {
                String text = "forests " + (char) sign + ";";
                if (sign >= '1' && sign <= '5') {
                    rows(1, text);
                } else if (sign >= '0' && sign <= '9') {
                    fault(2, 8, text);
                } else {
                    fault(1, sign == 32 || sign == 10 ? 9 : 8, text);
                }
            }
        });
        Check.says("no other sign than ; ends a ROW", () -> {
            for (int sign = 0; sign < 256; sign++) {
                String text = "point a" + (char) sign;
                if (sign == ';') {
                    rows(1, text);
                } else if (sign >= '0' && sign <= '9') {
                    fault(1, 6, text);
                } else {
                    boolean goesOn = sign >= 'a' && sign <= 'z' || sign == 32 || sign == 10;
                    fault(1, goesOn ? 8 : 7, text);
                }
            }
        });
    }

    private static void tokens() {
        Check.says("TOKENS with blanks between them or not", () -> {
            rows(3, TWO + "line a b 1;");
            rows(3, "\n point \n a\n\n; point b ;\nline\na\nb\n1\n; \n");
            rows(0, " ");
            rows(0, "\n");
        });
        Check.says("a WORD has 1 to 7 small letters", () -> {
            for (int letters = 1; letters <= 7; letters++) {
                rows(1, "point " + "q".repeat(letters) + ";");
            }
            for (int letters : new int[] {8, 9, 13, 14, 27, 100, 400}) {
                fault(1, 6, "point " + "q".repeat(letters) + ";");
            }
        });
        Check.says("a NUMBER has 1 or 2 digits", () -> {
            rows(3, TWO + "line a b 7;");
            rows(3, TWO + "line a b 07;");
            fault(1, 25, TWO + "line a b 007;");
            fault(1, 25, TWO + "line a b 000;");
            fault(1, 25, TWO + "line a b 4294967297;");
        });
        Check.says("a WORD, NUMBER goes on as long as small letters and digits do: none of both", () -> {
            fault(1, 0, "point1 a;");
            fault(1, 0, "1point a;");
            fault(1, 0, "pointa;");
            fault(1, 0, "forests2;");
            fault(1, 6, "point a1;");
            fault(1, 6, "point 1a;");
            fault(1, 8, "forests 2a;");
            fault(1, 23, TWO + "line a b3;");
            fault(1, 25, TWO + "line a b 3line;");
        });
        Check.says("unlike NAMES are unlike, however like they look", () -> {
            rows(6, "point a;point aa;point aaa;point aaaaaaa;point aaaaaab;point baaaaaa;");
            rows(5, "point az;point ba;point za;point zz;point zzzzzzz;");
            rows(6, "point poin;point points;point lines;point forest;point lin;point eline;");
        });
        Check.says("of NAMES that look alike each is itself", () -> {
            ForestPacks x = Check.of("point az;point ba;point a;point za;line ba za 1;line az a 1;");
            Check.due("ends", "1 3 0 2", x.line(0, 0) + " " + x.line(0, 1) + " " + x.line(1, 0) + " " + x.line(1, 1));
        });
    }

    private static void rowsOfTheNet() {
        Check.says("a ROW has its sign ; the last one too", () -> {
            fault(1, 7, "point a");
            fault(1, 8, "point a point b;");
            fault(1, 9, "point a; ;");
            fault(1, 8, "point a;;");
        });
        Check.says("LINE: POINTS that are unlike", () -> {
            fault(3, 23, TWO + "line a a 3;");
            fault(3, 23, TWO + "line b b 3;");
            rows(4, TWO + "line a b 3;line b a 3;");
        });
        Check.says("LINE: the same two again and again, if you like", () -> {
            rows(26, LINES);
            Check.due("lines", 24, Check.of(LINES).now(1));
        });
        Check.says("WEIGHT 1 to 99", () -> {
            rows(3, TWO + "line a b 1;");
            rows(3, TWO + "line a b 99;");
            fault(2, 25, TWO + "line a b 0;");
            fault(2, 25, TWO + "line a b 00;");
            fault(1, 25, TWO + "line a b 100;");
            Check.due("weight", 99, Check.of(TWO + "line a b 99;").line(0, 2));
            Check.due("weight", 1, Check.of(TWO + "line a b 01;").line(0, 2));
            Check.due("weight", 42, Check.of(TWO + "line a b 42;").line(0, 2));
        });
        Check.says("forests K, 1 to 5", () -> {
            for (int k = 1; k <= 5; k++) {
                Check.due("K", k, Check.of("forests " + k + ";").now(2));
                Check.due("K", k, Check.of("point a;forests 0" + k + ";").now(2));
            }
            fault(2, 8, "forests 0;");
            fault(2, 8, "forests 00;");
            fault(2, 8, "forests 6;");
            fault(2, 8, "forests 10;");
            fault(1, 8, "forests 001;");
        });
        Check.says("forests once: again, it is FAULT 3 at the WORD", () -> {
            fault(3, 10, "forests 2;forests 2;");
            fault(3, 18, "forests 2;point a;forests 3;");
            fault(3, 10, "forests 2;forests");
            ForestPacks x = Check.of("forests 3;");
            Check.tell(x, "forests 4;");
            Check.due("K by the next text", 4, x.now(2));
        });
        Check.says("K is 2 without", () -> Check.due("K", 2, Check.of("point a;").now(2)));
        Check.says("NAME: none of these three", () -> {
            fault(1, 6, "point point;");
            fault(1, 6, "point line;");
            fault(1, 6, "point forests;");
        });
        Check.says("NAME told once", () -> {
            fault(3, 14, "point a;point a;");
            fault(3, 30, TWO + "point c;point b;");
        });
        Check.says("LINES are numbered from 0 as told, so are POINTS", () -> {
            ForestPacks x = Check.of("point z;point b;line b z 3;point a;line z a 4;");
            Check.due("line 0", "1 0 3", x.line(0, 0) + " " + x.line(0, 1) + " " + x.line(0, 2));
            Check.due("line 1", "0 2 4", x.line(1, 0) + " " + x.line(1, 1) + " " + x.line(1, 2));
        });
    }

    private static void limitsOfTheNet() {
        Check.says("10 POINTS at most", () -> {
            rows(10, TEN);
            fault(4, 80, TEN + "point k;");
            Check.due("points", 10, Check.of(TEN).now(0));
        });
        Check.says("24 LINES at most", () -> {
            rows(26, LINES);
            fault(4, 280, LINES + "line a b 1;");
        });
        Check.says("FAULT 4 is at the ROW's first WORD, whatever comes behind", () -> {
            fault(4, 82, TEN + "\n\npoint a;");
            fault(4, 80, TEN + "point ?");
            fault(4, 80, TEN + "point");
            fault(4, 281, LINES + " line z z 0;");
            fault(4, 280, LINES + "line");
        });
        Check.says("10 POINTS and 24 LINES are no hindrance to other ROWS", () -> {
            rows(11, TEN + "forests 1;");
            rows(28, LINES + "forests 1;point c;");
        });
    }

    private static void faultsByToken() {
        Check.says("FAULT 1: no TOKEN", () -> {
            fault(1, 3, " \n ?");
            fault(1, 6, "point A;");
            fault(1, 25, TWO + "line a b -1;");
            fault(1, 24, TWO + "line a b,1;");
        });
        Check.says("FAULT 1: one that can't come, for a ROW", () -> {
            fault(1, 0, "a b 1;");
            fault(1, 0, "12;");
            fault(1, 0, ";");
            fault(1, 0, "points a;");
        });
        Check.says("FAULT 1: one that can't come, for a NAME", () -> {
            fault(1, 6, "point ;");
            fault(1, 6, "point 12;");
            fault(1, 21, TWO + "line ;");
            fault(1, 21, TWO + "line 1 b 1;");
            fault(1, 23, TWO + "line a ;");
            fault(1, 23, TWO + "line a 1;");
        });
        Check.says("FAULT 1: one that can't come, for a NUMBER", () -> {
            fault(1, 8, "forests ;");
            fault(1, 8, "forests two;");
            fault(1, 8, "forests forests;");
            fault(1, 25, TWO + "line a b ;");
            fault(1, 25, TWO + "line a b a;");
            fault(1, 25, TWO + "line a b line;");
        });
        Check.says("FAULT 1: one that can't come, for the sign", () -> {
            fault(1, 8, "point a b;");
            fault(1, 8, "point a 1;");
            fault(1, 10, "forests 2 2;");
            fault(1, 27, TWO + "line a b 1 a;");
            fault(1, 27, TWO + "line a b 1 1;");
        });
        Check.says("FAULT 2: a NUMBER that is not as told, at it", () -> {
            fault(2, 10, "forests \n 7;");
            fault(2, 27, TWO + "line a b   0 ;");
        });
        Check.says("FAULT 3: a NAME told twice", () -> fault(3, 24, TWO + "  point b;"));
        Check.says("FAULT 3: a NAME not told", () -> {
            fault(3, 21, TWO + "line c b 1;");
            fault(3, 23, TWO + "line a c 1;");
            fault(3, 21, TWO + "line aa b 1;");
            fault(3, 5, "line a a 1;");
        });
        Check.says("FAULT 3: a NAME that a later ROW tells is not told yet", () -> fault(3, 15, "point a;line a b 1;point b;"));
        Check.says("FAULT 3: a second POINT that is the first one", () -> fault(3, 25, TWO + "line a   a 1;"));
    }

    private static void faultsAlong() {
        Check.says("the first FAULT along the text", () -> {
            fault(3, 21, TWO + "line c a 0;?");
            fault(2, 25, TWO + "line a b 0;line c a 1;");
            fault(1, 8, "point a ? point a;");
            fault(3, 14, "point a;point a;?");
            fault(2, 8, "forests 9 ;;");
            fault(1, 88, TEN + "forests ;point k;");
        });
    }

    private static void leastOfOneToken() {
        Check.says("of one TOKEN the least: a NAME not told that can't come (1, not 3)", () -> {
            fault(1, 21, TWO + "line point b 1;");
            fault(1, 23, TWO + "line a forests 1;");
            fault(1, 23, TWO + "line a line 1;");
        });
        Check.says("of one TOKEN the least: 'forests' again that can't come (1, not 3)", () -> {
            fault(1, 10, "forests 2 forests 2;");
            fault(1, 16, "forests 2;point forests;");
        });
        Check.says("of one TOKEN the least: a NUMBER that can't come, not as told (1, not 2)", () -> {
            fault(1, 0, "0;");
            fault(1, 6, "point 00;");
            fault(1, 21, TWO + "line 0 b 1;");
        });
        Check.says("of one TOKEN the least: an eleventh 'point', a 25th 'line' that can't come (1, not 4)", () -> {
            fault(1, 80, TEN.substring(0, 79) + " point k;");
            fault(1, 280, LINES.substring(0, 279) + " line a b 1;");
        });
        Check.says("of one TOKEN the least: a digit too much is no TOKEN (1, not 2)", () -> {
            fault(1, 8, "forests 006;");
            fault(1, 25, TWO + "line a b 999;");
        });
    }

    private static void theEnd() {
        Check.says("FAULT 1 at the end: how many bytes there are", () -> {
            String all = "point a;point b;forests 2;line a b 1;";
            for (int n = 0; n < all.length(); n++) {
                String text = all.substring(0, n);
                if (n == 0 || text.endsWith(";")) {
                    rows(text.length() - text.replace(";", "").length(), text);
                } else {
                    String last = text.substring(text.lastIndexOf(';') + 1);
                    boolean begun = last.matches("(point|line|forests)( .*)?");
                    fault(1, begun ? n : text.lastIndexOf(';') + 1, text);
                }
            }
        });
        Check.says("FAULT 1 at the end, behind blanks too", () -> {
            fault(1, 9, "point\n \n ");
            fault(1, 12, "point a     ");
            fault(1, 28, TWO + "line a b 1  ");
        });
        Check.says("FAULT 1 at the end of 600 bytes", () -> {
            fault(1, 600, blanks(593) + "point a");
            fault(1, 600, blanks(595) + "point");
            fault(1, 600, "point" + blanks(595));
            fault(1, 599, "point" + blanks(594));
        });
    }

    private static void sixHundred() {
        Check.says("a text of at most 600 bytes", () -> {
            rows(0, blanks(600));
            rows(1, blanks(592) + "point a;");
            rows(1, "point a;" + blanks(592));
        });
        Check.says("600, if there are more and no FAULT is ahead", () -> {
            fault(1, 600, blanks(601));
            fault(1, 600, blanks(640));
            fault(1, 600, "point a;" + blanks(593));
            fault(1, 600, blanks(592) + "point a;;");
            fault(1, 600, blanks(593) + "point a;");
            fault(1, 600, blanks(600) + "?");
            fault(1, 600, blanks(600) + "point a;");
        });
        Check.says("600, if there are more, also in the midst of a ROW", () -> {
            fault(1, 600, "point" + blanks(600) + "a;");
            fault(1, 600, blanks(594) + "point a;");
            fault(1, 600, blanks(593) + "point a" + blanks(1) + ";");
        });
        Check.says("a FAULT ahead of 600 comes first, if there are more", () -> {
            fault(1, 599, blanks(599) + "?" + blanks(40));
            fault(3, 14, "point a;point a;" + blanks(620));
            fault(2, 8, "forests 6;" + blanks(620));
            fault(4, 80, TEN + "point k;" + blanks(540));
        });
        Check.says("a FAULT at 600 and behind is none ahead", () -> {
            fault(1, 600, "point a;" + blanks(592) + "point a;");
            fault(1, 600, "forests" + blanks(593) + "9;");
        });
    }

    private static void readWhole() {
        Check.says("TOKENS that begin ahead of 600 are read whole: a NAME", () -> {
            fault(1, 600, blanks(593) + "point abcdefg;");
            fault(1, 599, blanks(593) + "point abcdefgh;");
            fault(1, 599, blanks(593) + "point a1;");
            fault(3, 599, "point abc;" + blanks(583) + "point abc;");
            fault(1, 600, "point a;" + blanks(585) + "point abc;");
        });
        Check.says("TOKENS that begin ahead of 600 are read whole: a WORD of the three", () -> {
            fault(1, 600, blanks(599) + "point a;");
            fault(1, 600, blanks(596) + "line a b 1;");
            fault(1, 599, blanks(599) + "pointx a;");
            fault(4, 599, TEN + blanks(519) + "point k;");
            fault(3, 599, "forests 2;" + blanks(589) + "forests 2;");
            fault(1, 599, blanks(593) + "point line;");
        });
        Check.says("TOKENS that begin ahead of 600 are read whole: a NUMBER", () -> {
            fault(1, 600, blanks(591) + "forests 05;");
            fault(2, 599, blanks(591) + "forests 50;");
            fault(1, 599, blanks(591) + "forests 500;");
            fault(1, 599, blanks(591) + "forests 5a;");
        });
        Check.says("a TOKEN that goes on to the end of the tape is read whole", () -> {
            fault(1, 599, blanks(599) + "a".repeat(41));
            fault(1, 593, blanks(593) + "a".repeat(47));
            fault(1, 600, "point " + blanks(593) + "a".repeat(7));
        });
    }

    private static void kinds() {
        Check.says("5: the kind of the FAULT of the latest net()", () -> {
            ForestPacks x = new ForestPacks();
            String[] texts = {"?", "forests 6;", "line a b 1;", TEN + "point k;"};
            for (int i = 0; i < 4; i++) {
                Check.tape(x, texts[i]);
                x.net();
                Check.due("fault()", i + 1, x.fault());
                Check.due("fault() again", i + 1, x.fault());
            }
        });
        Check.says("5: 0 without one", () -> {
            ForestPacks x = new ForestPacks();
            Check.tape(x, "?");
            x.net();
            x.feed(0, 0, 0, 0, 0);
            Check.due("not by feed()", 1, x.fault());
            x.end(0);
            x.net();
            Check.due("fault()", 0, x.fault());
        });
    }
}
