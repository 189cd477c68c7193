/** Forests, lines, rings, chains, crowds, trades: promises 6 to 18, sentence by sentence. */
public final class ForestTests {
    /** Two trees on four points, full for K 2, and lines 6 to 8 that wait. */
    private static final String TWO_TREES = "ab bd dc ac cb ad ab bc cd";

    public static void main(String[] args) {
        forests();
        line();
        ring();
        thrown();
        forest();
        now();
        put();
        lift();
        place();
        chainOrder();
        chainTarget();
        chain();
        chainAt();
        crowd();
        pack();
        trade();
        Check.end("forests");
    }

    private static ForestPacks twoTrees() {
        ForestPacks x = Check.net(2, 4, TWO_TREES);
        Check.into(x, 0, 0, 1, 2);
        Check.into(x, 1, 3, 4, 5);
        return x;
    }

    private static void forests() {
        Check.says("6: K is n, 1 to 5", () -> {
            ForestPacks x = Check.net(2, 2, "ab");
            for (int n : new int[] {1, 5, 3, 4, 2}) {
                Check.due("forests(" + n + ")", 0, x.forests(n));
                Check.due("K", n, x.now(2));
                Check.due("the last one", 0, x.forest(n - 1));
                Check.due("no more", -1, x.forest(n));
            }
        });
        Check.says("6: how many LINES were LIFTED, all those in FORESTS that there are no more", () -> {
            ForestPacks x = Check.net(5, 3, "ab ab ab ab ab bc bc");
            for (int l = 0; l < 5; l++) {
                Check.into(x, l, l);
            }
            Check.into(x, 4, 5);
            Check.due("forests(4)", 2, x.forests(4));
            Check.due("in forests", "0 1 2 3 -1 -1", homes(x, 6));
            Check.due("forests(1)", 3, x.forests(1));
            Check.due("in forests", "0 -1 -1 -1 -1 -1", homes(x, 6));
            Check.due("forests(5)", 0, x.forests(5));
            Check.due("they don't come back", "0 -1 -1 -1 -1 -1", homes(x, 6));
        });
        Check.says("6: the first LINE can be one of those", () -> {
            ForestPacks x = Check.net(2, 2, "ab ab");
            Check.into(x, 1, 0);
            Check.due("forests(1)", 1, x.forests(1));
            Check.due("in forests", "-1 -1", homes(x, 2));
        });
        Check.says("6: NONE: not as told", () -> {
            ForestPacks x = Check.net(5, 2, "ab");
            Check.into(x, 4, 0);
            for (int n : new int[] {0, 6, -1}) {
                Check.idle(x, "forests(" + n + ")", -1, () -> x.forests(n));
            }
            for (int n : Check.FAR) {
                Check.idle(x, "forests(" + n + ")", -1, () -> x.forests(n));
            }
        });
        Check.says("6: NONE: it is so", () -> {
            for (int k = 1; k <= 5; k++) {
                ForestPacks x = Check.net(k, 2, "ab");
                int n = k;
                Check.idle(x, "forests(" + n + ")", -1, () -> x.forests(n));
            }
            ForestPacks y = new ForestPacks();
            Check.idle(y, "forests(2) without points", -1, () -> y.forests(2));
        });
        Check.says("6: K can be told without points", () -> Check.due("forests(5)", 0, new ForestPacks().forests(5)));
    }

    private static String homes(ForestPacks x, int lines) {
        StringBuilder all = new StringBuilder();
        for (int l = 0; l < lines; l++) {
            all.append(l == 0 ? "" : " ").append(x.line(l, 3));
        }
        return all.toString();
    }

    private static void line() {
        Check.says("7: 0 its first POINT, 1 its second one, 2 WEIGHT", () -> {
            ForestPacks x = Check.net(2, 10, "ja99 ab1");
            Check.due("line 0", "9 0 99", x.line(0, 0) + " " + x.line(0, 1) + " " + x.line(0, 2));
            Check.due("line 1", "0 1 1", x.line(1, 0) + " " + x.line(1, 1) + " " + x.line(1, 2));
        });
        Check.says("7: the POINTS are as told, however it is TURNED", () -> {
            ForestPacks x = Check.net(2, 2, "ba");
            x.turn(0);
            Check.due("line 0", "1 0", x.line(0, 0) + " " + x.line(0, 1));
        });
        Check.says("7: 3 the FOREST in which it lies (NONE: none)", () -> {
            ForestPacks x = Check.net(5, 2, "ab ab ab");
            Check.into(x, 4, 0);
            Check.into(x, 0, 1);
            Check.due("in forests", "4 0 -1", homes(x, 3));
        });
        Check.says("7: 4 whether it is BROKEN (1, 0)", () -> {
            ForestPacks x = Check.net(5, 2, "ab ab");
            x.breaks(1);
            Check.due("broken", "0 1", x.line(0, 4) + " " + x.line(1, 4));
        });
        Check.says("7: the last of 24 LINES is told too", () -> {
            ForestPacks x = Check.net(5, 2, "ab ".repeat(23) + "ba7");
            Check.due("weight", 7, x.line(23, 2));
            Check.idle(x, "line(24, 0)", Check.THROWN, () -> x.line(24, 0));
        });
        Check.says("7: NoSuchElementException: no such LINE", () -> {
            ForestPacks x = Check.net(2, 2, "ab ab");
            Check.idle(x, "line(2, 0)", Check.THROWN, () -> x.line(2, 0));
            Check.idle(x, "line(-1, 0)", Check.THROWN, () -> x.line(-1, 0));
            for (int far : Check.FAR) {
                Check.idle(x, "line(" + far + ", 0)", Check.THROWN, () -> x.line(far, 0));
            }
            ForestPacks y = new ForestPacks();
            Check.idle(y, "line(0, 0) without lines", Check.THROWN, () -> y.line(0, 0));
        });
        Check.says("7: NoSuchElementException: no such what", () -> {
            ForestPacks x = Check.net(2, 2, "ab ab");
            Check.idle(x, "line(0, 5)", Check.THROWN, () -> x.line(0, 5));
            Check.idle(x, "line(0, -1)", Check.THROWN, () -> x.line(0, -1));
            for (int far : Check.FAR) {
                Check.idle(x, "line(0, " + far + ")", Check.THROWN, () -> x.line(0, far));
            }
        });
    }

    private static void ring() {
        Check.says("RING: the LINES on the way from one of its POINTS to the other one", () -> {
            ForestPacks x = Check.net(2, 5, "ab bc cd de be ad ea");
            Check.into(x, 0, 0, 1, 2, 3);
            Check.due("b to e", Check.set(1, 2, 3), x.ring(4, 0));
            Check.due("a to d", Check.set(0, 1, 2), x.ring(5, 0));
            Check.due("e to a", Check.set(0, 1, 2, 3), x.ring(6, 0));
        });
        Check.says("RING: LINES beside the way are none of it", () -> {
            ForestPacks x = Check.net(2, 6, "fa ab ac cd ce ef de");
            Check.into(x, 0, 0, 1, 2, 3, 4);
            Check.due("d to e", Check.set(3, 4), x.ring(6, 0));
            Check.due("e to f", Check.set(0, 2, 4), x.ring(5, 0));
        });
        Check.says("RING: one LINE between the same POINTS", () -> {
            ForestPacks x = Check.net(2, 2, "ab ba");
            Check.into(x, 1, 0);
            Check.due("ring", 1, x.ring(1, 1));
        });
        Check.says("8: 0: none, if there is no way", () -> {
            ForestPacks x = Check.net(2, 4, "ab cd ac bd");
            Check.due("an empty forest", 0, x.ring(0, 0));
            Check.into(x, 0, 0, 1);
            Check.due("unlike pieces", 0, x.ring(2, 0));
            Check.due("the other forest", 0, x.ring(3, 1));
        });
        Check.says("8: a LINE of another FOREST has a RING, too", () -> {
            ForestPacks x = twoTrees();
            Check.due("a-b in 1", Check.set(3, 4), x.ring(0, 1));
            Check.due("a-c in 0", Check.set(0, 1, 2), x.ring(3, 0));
        });
        Check.says("8: over nine LINES of ten POINTS", () -> {
            ForestPacks x = Check.net(1, 10, "ij hi gh fg ef de cd bc ab aj");
            Check.into(x, 0, 0, 1, 2, 3, 4, 5, 6, 7, 8);
            Check.due("ring", 511, x.ring(9, 0));
        });
        Check.says("8: NoSuchElementException: it is BROKEN", () -> {
            ForestPacks x = Check.net(2, 2, "ab ab");
            x.breaks(1);
            Check.idle(x, "ring(1, 0)", Check.THROWN, () -> x.ring(1, 0));
        });
        Check.says("8: NoSuchElementException: it lies there", () -> {
            ForestPacks x = Check.net(2, 2, "ab ab");
            Check.into(x, 1, 1);
            Check.idle(x, "ring(1, 1)", Check.THROWN, () -> x.ring(1, 1));
            Check.due("ring(1, 0)", 0, x.ring(1, 0));
        });
        Check.says("8: NoSuchElementException: no such LINE", () -> {
            ForestPacks x = Check.net(2, 2, "ab ab");
            Check.idle(x, "ring(2, 0)", Check.THROWN, () -> x.ring(2, 0));
            Check.idle(x, "ring(-1, 0)", Check.THROWN, () -> x.ring(-1, 0));
            for (int far : Check.FAR) {
                Check.idle(x, "ring(" + far + ", 0)", Check.THROWN, () -> x.ring(far, 0));
            }
        });
        Check.says("8: NoSuchElementException: no such FOREST", () -> {
            ForestPacks x = Check.net(4, 2, "ab ab");
            Check.due("ring(0, 3)", 0, x.ring(0, 3));
            Check.idle(x, "ring(0, 4)", Check.THROWN, () -> x.ring(0, 4));
            Check.idle(x, "ring(0, -1)", Check.THROWN, () -> x.ring(0, -1));
            for (int far : Check.FAR) {
                Check.idle(x, "ring(0, " + far + ")", Check.THROWN, () -> x.ring(0, far));
            }
        });
    }

    private static void thrown() {
        Check.says("a call that throws changes nothing", () -> {
            ForestPacks x = twoTrees();
            x.chain(6);
            x.image(0);
            x.weigh(0, 7);
            x.feed(1, 2, 3, 4, 5);
            Check.idle(x, "line(9, 0)", Check.THROWN, () -> x.line(9, 0));
            Check.idle(x, "line(0, 5)", Check.THROWN, () -> x.line(0, 5));
            Check.idle(x, "ring(0, 0)", Check.THROWN, () -> x.ring(0, 0));
            Check.idle(x, "ring(0, 2)", Check.THROWN, () -> x.ring(0, 2));
            Check.due("undo()", 6, x.undo());
            Check.due("weight", 1, x.line(0, 2));
            Check.due("restore(0)", true, x.restore(0));
        });
    }

    private static void forest() {
        Check.says("9: LINES of a FOREST, as a set", () -> {
            ForestPacks x = twoTrees();
            Check.due("forest(0)", Check.set(0, 1, 2), x.forest(0));
            Check.due("forest(1)", Check.set(3, 4, 5), x.forest(1));
            ForestPacks y = Check.net(5, 2, "ab ".repeat(24));
            Check.into(y, 4, 23);
            Check.due("the last line", 1 << 23, y.forest(4));
            Check.due("an empty one", 0, y.forest(3));
        });
        Check.says("9: NONE: no such one", () -> {
            ForestPacks x = Check.net(1, 2, "ab");
            Check.idle(x, "forest(1)", -1, () -> x.forest(1));
            Check.idle(x, "forest(-1)", -1, () -> x.forest(-1));
            for (int far : Check.FAR) {
                Check.idle(x, "forest(" + far + ")", -1, () -> x.forest(far));
            }
        });
    }

    private static void now() {
        Check.says("10: 0 POINTS, 1 LINES, 2 K, with the most of each", () -> {
            ForestPacks x = Check.net(5, 10, "ab ".repeat(24));
            Check.due("now", "10 24 5", x.now(0) + " " + x.now(1) + " " + x.now(2));
        });
        Check.says("10: 3 SOUND LINES", () -> {
            ForestPacks x = Check.net(5, 10, "ab ".repeat(24));
            Check.due("all", 24, x.now(3));
            x.breaks(0);
            x.breaks(23);
            Check.due("but two", 22, x.now(3));
        });
        Check.says("10: 4 those that lie in a FOREST", () -> {
            ForestPacks x = Check.net(5, 2, "ab ".repeat(24));
            Check.due("none", 0, x.now(4));
            Check.due("pack()", 5, x.pack());
            Check.due("five", 5, x.now(4));
            x.breaks(0);
            Check.due("a broken one is lifted", 4, x.now(4));
        });
        Check.says("10: 5 PIECES of POINTS that SOUND LINES join", () -> {
            ForestPacks x = Check.net(2, 5, "ab cd bc");
            Check.due("abcd, e", 2, x.now(5));
            x.breaks(2);
            Check.due("ab, cd, e", 3, x.now(5));
            x.breaks(0);
            x.breaks(1);
            Check.due("each one", 5, x.now(5));
        });
        Check.says("10: 6 PIECES that LINES of FOREST 0 join", () -> {
            ForestPacks x = Check.net(2, 4, "ab cd bc ab bc");
            Check.due("each one", 4, x.now(6));
            Check.into(x, 1, 0, 1, 2);
            Check.due("FOREST 1 joins none", 4, x.now(6));
            Check.into(x, 0, 3);
            Check.due("ab, c, d", 3, x.now(6));
        });
        Check.says("10: PIECES of a long way, told from its end", () -> {
            ForestPacks x = Check.net(2, 10, "ij hi gh fg ef de cd bc ab");
            Check.due("sound", 1, x.now(5));
            Check.due("pack()", 9, x.pack());
            Check.due("forest 0", 1, x.now(6));
        });
        Check.says("10: 7 acts that can be undone, 8 bytes of the tape", () -> {
            ForestPacks x = Check.net(2, 2, "ab");
            x.turn(0);
            x.feed(0, 0, 0, 0, 0);
            Check.due("now", "1 20", x.now(7) + " " + x.now(8));
        });
        Check.says("10: NONE for another what", () -> {
            ForestPacks x = twoTrees();
            Check.idle(x, "now(9)", -1, () -> x.now(9));
            Check.idle(x, "now(-1)", -1, () -> x.now(-1));
            for (int far : Check.FAR) {
                Check.idle(x, "now(" + far + ")", -1, () -> x.now(far));
            }
        });
    }

    private static void put() {
        Check.says("11: 0: it is PUT", () -> {
            ForestPacks x = Check.net(5, 2, "ab");
            Check.act(x, "put(0, 4)", 0, () -> x.put(0, 4));
            Check.due("forest", 16, 1 << x.line(0, 3));
        });
        Check.says("11: why not 1: it is BROKEN", () -> {
            ForestPacks x = Check.net(2, 2, "ab ab");
            x.breaks(1);
            Check.idle(x, "put(1, 0)", 1, () -> x.put(1, 0));
        });
        Check.says("11: why not 2: it lies in one, there or elsewhere", () -> {
            ForestPacks x = Check.net(2, 2, "ab ab");
            Check.into(x, 1, 1);
            Check.idle(x, "put(1, 1)", 2, () -> x.put(1, 1));
            Check.idle(x, "put(1, 0)", 2, () -> x.put(1, 0));
        });
        Check.says("11: why not 3: it has a RING there", () -> {
            ForestPacks x = Check.net(2, 3, "ab bc ac");
            Check.into(x, 1, 0, 1);
            Check.idle(x, "put(2, 1)", 3, () -> x.put(2, 1));
            Check.due("put(2, 0)", 0, x.put(2, 0));
        });
        Check.says("11: two LINES between the same POINTS go round", () -> {
            ForestPacks x = Check.net(2, 2, "ab ba");
            Check.into(x, 0, 0);
            Check.idle(x, "put(1, 0)", 3, () -> x.put(1, 0));
        });
        Check.says("11: why not, the least: 1 ahead of 3", () -> {
            ForestPacks x = Check.net(2, 2, "ab ab");
            Check.into(x, 0, 0);
            x.breaks(1);
            Check.idle(x, "put(1, 0)", 1, () -> x.put(1, 0));
        });
        Check.says("11: why not, the least: 2 ahead of 3", () -> {
            ForestPacks x = Check.net(2, 2, "ab ab");
            Check.into(x, 0, 0);
            Check.into(x, 1, 1);
            Check.idle(x, "put(1, 0)", 2, () -> x.put(1, 0));
        });
        Check.says("11: NONE: no such LINE", () -> {
            ForestPacks x = Check.net(2, 2, "ab ab");
            Check.idle(x, "put(2, 0)", -1, () -> x.put(2, 0));
            Check.idle(x, "put(-1, 0)", -1, () -> x.put(-1, 0));
            for (int far : Check.FAR) {
                Check.idle(x, "put(" + far + ", 0)", -1, () -> x.put(far, 0));
            }
        });
        Check.says("11: NONE: no such FOREST, be the LINE BROKEN or not", () -> {
            ForestPacks x = Check.net(2, 2, "ab ab");
            x.breaks(0);
            for (int l = 0; l < 2; l++) {
                int at = l;
                Check.idle(x, "put(" + l + ", 2)", -1, () -> x.put(at, 2));
                Check.idle(x, "put(" + l + ", -1)", -1, () -> x.put(at, -1));
                for (int far : Check.FAR) {
                    Check.idle(x, "put(" + l + ", " + far + ")", -1, () -> x.put(at, far));
                }
            }
        });
    }

    private static void lift() {
        Check.says("12: the FOREST in which it lay", () -> {
            ForestPacks x = Check.net(5, 2, "ab ab");
            Check.into(x, 4, 0);
            Check.into(x, 0, 1);
            Check.act(x, "lift(0)", 4, () -> x.lift(0));
            Check.due("lies", -1, x.line(0, 3));
            Check.act(x, "lift(1)", 0, () -> x.lift(1));
        });
        Check.says("12: NONE: it lies in none", () -> {
            ForestPacks x = Check.net(5, 2, "ab ab");
            x.breaks(1);
            Check.idle(x, "lift(0)", -1, () -> x.lift(0));
            Check.idle(x, "lift(1), a broken one", -1, () -> x.lift(1));
        });
        Check.says("12: NONE: no such one", () -> {
            ForestPacks x = twoTrees();
            Check.idle(x, "lift(9)", -1, () -> x.lift(9));
            Check.idle(x, "lift(-1)", -1, () -> x.lift(-1));
            for (int far : Check.FAR) {
                Check.idle(x, "lift(" + far + ")", -1, () -> x.lift(far));
            }
        });
    }

    private static void place() {
        Check.says("13: how many LINES its CHAIN has: it alone", () -> {
            ForestPacks x = Check.net(2, 2, "ab ab");
            Check.act(x, "place(0)", 1, () -> x.place(0));
            Check.act(x, "place(1)", 1, () -> x.place(1));
            Check.due("in forests", "0 1", homes(x, 2));
        });
        Check.says("13: 0: it is BLOCKED", () -> {
            ForestPacks x = Check.net(1, 2, "ab ab");
            x.place(0);
            String ahead = Check.netOf(x) + x.now(7);
            Check.due("place(1)", 0, x.place(1));
            Check.due("all", ahead, Check.netOf(x) + x.now(7));
        });
        Check.says("13: NONE: it is BROKEN", () -> {
            ForestPacks x = Check.net(1, 2, "ab ab");
            x.breaks(1);
            Check.idle(x, "place(1)", -1, () -> x.place(1));
        });
        Check.says("13: NONE: it lies in a FOREST", () -> {
            ForestPacks x = Check.net(2, 2, "ab ab");
            Check.into(x, 1, 1);
            Check.idle(x, "place(1)", -1, () -> x.place(1));
        });
        Check.says("13: NONE: no such one", () -> {
            ForestPacks x = twoTrees();
            Check.idle(x, "place(9)", -1, () -> x.place(9));
            Check.idle(x, "place(-1)", -1, () -> x.place(-1));
            for (int far : Check.FAR) {
                Check.idle(x, "place(" + far + ")", -1, () -> x.place(far));
            }
        });
    }

    private static void told(ForestPacks x, int... chain) {
        for (int i = 0; i < chain.length / 2; i++) {
            Check.due("chainAt(" + i + ", 0)", chain[2 * i], x.chainAt(i, 0));
            Check.due("chainAt(" + i + ", 1)", chain[2 * i + 1], x.chainAt(i, 1));
        }
        Check.due("no more", -1, x.chainAt(chain.length / 2, 0));
    }

    private static void chainOrder() {
        Check.says("CHAIN: the shortest one, though a longer one has a lesser LINE", () -> {
            // 7 leads to 0, 1, 2 (forest 0) and 3 (forest 1): 0 is free in none, but 4 behind it is; 1 is free.
            ForestPacks x = Check.net(2, 5, "ab bc cd ad ae eb ce ad");
            Check.into(x, 0, 0, 1, 2);
            Check.into(x, 1, 3, 4, 5);
            Check.due("chain(7)", 2, x.chain(7));
            told(x, 7, 0, 1, 1);
        });
        Check.says("CHAIN: of like ones the first, the second LINE the least", () -> {
            ForestPacks x = Check.net(2, 4, "bc ab cd ad ad");
            Check.into(x, 0, 0, 1, 2);
            Check.into(x, 1, 3);
            Check.due("chain(4)", 2, x.chain(4));
            told(x, 4, 0, 0, 1);
        });
        Check.says("CHAIN: of like ones the least, though it lies in a later FOREST", () -> {
            ForestPacks x = Check.net(2, 3, "ac cb ab ab");
            Check.into(x, 1, 0, 1);
            Check.into(x, 0, 2);
            Check.due("chain(3)", 2, x.chain(3));
            told(x, 3, 1, 0, 0);
        });
        Check.says("CHAIN: of like ones the first, LINE by LINE from the front", () -> {
            // 8 leads to 1, 2, 3, 5; 1 to 4 and 7, 3 to 0 and 4, 5 to 0 and 7; these three are free.
            ForestPacks x = Check.net(2, 5, "be ad cd bc de ab ab ae cd");
            Check.into(x, 0, 1, 3, 5);
            Check.into(x, 1, 0, 2, 4, 7);
            Check.act(x, "place(8)", 3, () -> x.place(8));
            told(x, 8, 0, 1, 1, 4, 0);
            Check.due("in forests", "1 1 1 0 0 0 -1 1 0", homes(x, 9));
        });
        Check.says("CHAIN: in one FOREST alone there is no other one to give way", () -> {
            ForestPacks x = Check.net(1, 3, "ab bc ac");
            Check.into(x, 0, 0, 1);
            Check.due("chain(2)", 0, x.chain(2));
        });
    }

    private static void chainTarget() {
        Check.says("PLACE: each LINE comes into the FOREST in which the next one lay", () -> {
            ForestPacks x = Check.net(2, 5, "ab bc cd ad ae eb ce ad");
            Check.into(x, 0, 0, 1, 2);
            Check.into(x, 1, 3, 4, 5);
            Check.act(x, "place(7)", 2, () -> x.place(7));
            Check.due("in forests", "0 1 0 1 1 1 -1 0", homes(x, 8));
        });
        Check.says("PLACE: the last one into the least FOREST in which it has no RING", () -> {
            ForestPacks x = Check.net(5, 2, "ab ab ab ab");
            Check.into(x, 0, 0);
            Check.into(x, 2, 1);
            Check.act(x, "place(3)", 1, () -> x.place(3));
            told(x, 3, 1);
            Check.act(x, "place(2)", 1, () -> x.place(2));
            told(x, 2, 3);
        });
        Check.says("PLACE: the least FOREST can be one ahead of that in which the last one lay", () -> {
            ForestPacks x = Check.net(3, 3, "ab ac cb ab ab");
            Check.into(x, 0, 0);
            Check.into(x, 1, 1, 2);
            Check.into(x, 2, 3);
            Check.act(x, "place(4)", 2, () -> x.place(4));
            told(x, 4, 1, 1, 0);
        });
        Check.says("PLACE: into a FOREST other than that in which it lies", () -> {
            // Line 0 has no RING in forests 1 and 2; that it would have none in 0 without itself is nothing.
            ForestPacks x = Check.net(2, 3, "ac cb ab ab");
            Check.into(x, 0, 0, 1);
            Check.into(x, 1, 2);
            Check.act(x, "place(3)", 2, () -> x.place(3));
            told(x, 3, 0, 0, 1);
        });
        Check.says("PLACE: no FOREST has LINES that go round then", () -> {
            ForestPacks x = twoTrees();
            x.lift(0);
            Check.due("place(6)", 1, x.place(6));
            Check.due("pieces of forest 0", 1, x.now(6));
        });
    }

    private static void chain() {
        Check.says("14: what place() would tell, nothing being done", () -> {
            ForestPacks x = Check.net(2, 3, "ac cb ab ab");
            Check.into(x, 0, 0, 1);
            Check.into(x, 1, 2);
            String ahead = Check.netOf(x) + x.now(7);
            Check.due("chain(3)", 2, x.chain(3));
            Check.due("all", ahead, Check.netOf(x) + x.now(7));
            Check.due("place(3)", 2, x.place(3));
        });
        Check.says("14: 0: it is BLOCKED; NONE: it is BROKEN, lies in a FOREST, no such one", () -> {
            ForestPacks x = Check.net(1, 2, "ab ab ab");
            Check.into(x, 0, 0);
            x.breaks(2);
            Check.idle(x, "chain(0)", -1, () -> x.chain(0));
            Check.idle(x, "chain(2)", -1, () -> x.chain(2));
            Check.idle(x, "chain(3)", -1, () -> x.chain(3));
            Check.idle(x, "chain(-1)", -1, () -> x.chain(-1));
            for (int far : Check.FAR) {
                Check.idle(x, "chain(" + far + ")", -1, () -> x.chain(far));
            }
            Check.due("chain(1)", 0, x.chain(1));
        });
    }

    private static void chainAt() {
        Check.says("15: NONE: ahead of any", () -> {
            ForestPacks x = Check.net(2, 2, "ab ab");
            Check.due("chainAt(0, 0)", -1, x.chainAt(0, 0));
            Check.into(x, 0, 0);
            Check.due("put() is none", -1, x.chainAt(0, 0));
            x.pack();
            Check.due("pack() is none", -1, x.chainAt(0, 0));
        });
        Check.says("15: NONE: none such", () -> {
            ForestPacks x = Check.net(2, 2, "ab ab");
            x.place(1);
            Check.due("chainAt", "1 0", x.chainAt(0, 0) + " " + x.chainAt(0, 1));
            Check.idle(x, "chainAt(1, 0)", -1, () -> x.chainAt(1, 0));
            Check.idle(x, "chainAt(-1, 0)", -1, () -> x.chainAt(-1, 0));
            Check.idle(x, "chainAt(0, 2)", -1, () -> x.chainAt(0, 2));
            Check.idle(x, "chainAt(0, -1)", -1, () -> x.chainAt(0, -1));
            for (int far : Check.FAR) {
                Check.idle(x, "chainAt(" + far + ", 0)", -1, () -> x.chainAt(far, 0));
                Check.idle(x, "chainAt(0, " + far + ")", -1, () -> x.chainAt(0, far));
            }
        });
        Check.says("15: by the latest place(), chain() above 0", () -> {
            ForestPacks x = Check.net(2, 3, "ac cb ab ab ab bc");
            Check.into(x, 0, 0, 1);
            Check.into(x, 1, 2);
            x.chain(3);
            told(x, 3, 0, 0, 1);
            x.place(5);
            told(x, 5, 1);
            Check.due("blocked", 0, x.place(4));
            told(x, 5, 1);
            Check.due("blocked", 0, x.chain(4));
            told(x, 5, 1);
            Check.due("lies", -1, x.place(5));
            told(x, 5, 1);
        });
        Check.says("15: a shorter CHAIN leaves nothing of a longer one", () -> {
            ForestPacks x = Check.net(3, 3, "ac cb ab ab ab");
            Check.into(x, 0, 0, 1);
            Check.into(x, 1, 2);
            x.forests(2);
            Check.due("chain(3)", 2, x.chain(3));
            x.forests(3);
            Check.due("chain(3)", 1, x.chain(3));
            told(x, 3, 2);
        });
        Check.says("15: undo(), pack(), drawn(), a new NET are none of these calls", () -> {
            ForestPacks x = Check.net(2, 3, "ab ab bc");
            x.place(1);
            x.undo();
            x.pack();
            x.drawn(60, 5);
            Check.tell(x, "point z;");
            told(x, 1, 0);
        });
    }

    private static void crowd() {
        Check.says("16: 0 ahead of any", () -> {
            ForestPacks x = Check.net(1, 3, "ab bc ac");
            Check.due("crowd()", 0, x.crowd());
            x.chain(0);
            x.place(1);
            Check.due("not blocked", 0, x.crowd());
            x.pack();
            Check.due("pack() is none", 0, x.crowd());
        });
        Check.says("CROWD: the POINTS of it and of all LINES on its RINGS", () -> {
            ForestPacks x = Check.net(1, 5, "ab bc de ca");
            Check.into(x, 0, 0, 1, 2);
            Check.due("chain(3)", 0, x.chain(3));
            Check.due("crowd()", 7, x.crowd());
        });
        Check.says("CROWD: over RINGS of LINES on RINGS, too", () -> {
            ForestPacks x = twoTrees();
            Check.due("ring", Check.set(0), x.ring(6, 0));
            Check.due("ring", Check.set(3, 4), x.ring(6, 1));
            Check.due("place(6)", 0, x.place(6));
            Check.due("crowd()", 15, x.crowd());
        });
        Check.says("CROWD: LINES to which one does not come over RINGS are none of it", () -> {
            ForestPacks x = Check.net(2, 4, "ab ab ab bc cd bc cd");
            Check.into(x, 0, 0, 3, 4);
            Check.into(x, 1, 1, 5, 6);
            Check.due("place(2)", 0, x.place(2));
            Check.due("crowd()", 3, x.crowd());
        });
        Check.says("16: by the latest place(), chain() that was 0", () -> {
            ForestPacks x = Check.net(1, 4, "ab cd ba dc bc");
            Check.into(x, 0, 0, 1);
            x.place(2);
            Check.due("crowd()", 3, x.crowd());
            x.chain(3);
            Check.due("crowd()", 12, x.crowd());
            Check.due("place(4)", 1, x.place(4));
            Check.due("not by one above 0", 12, x.crowd());
            Check.due("place(4)", -1, x.place(4));
            Check.due("not by one of NONE", 12, x.crowd());
        });
        Check.says("16: pack(), drawn(), undo(), a new NET are none of these calls", () -> {
            ForestPacks x = Check.net(1, 3, "ab ba bc cb");
            Check.into(x, 0, 0);
            x.chain(1);
            x.pack();
            x.drawn(60, 5);
            x.undo();
            Check.tell(x, "point z;");
            Check.due("crowd()", 3, x.crowd());
        });
    }

    private static void pack() {
        Check.says("17: how many were PLACED, LINES by number", () -> {
            ForestPacks x = Check.net(2, 3, "ab ab ab bc bc bc ac");
            Check.act(x, "pack()", 4, x::pack);
            Check.due("in forests", "0 1 -1 0 1 -1 -1", homes(x, 7));
        });
        Check.says("17: over CHAINS of more LINES than one", () -> {
            ForestPacks x = Check.net(2, 3, "ac cb ab ab");
            Check.into(x, 0, 0, 1);
            Check.due("pack()", 2, x.pack());
            Check.due("in forests", "1 0 1 0", homes(x, 4));
        });
        Check.says("17: each SOUND one that lies in none", () -> {
            ForestPacks x = Check.net(2, 2, "ab ab ab");
            Check.into(x, 1, 2);
            x.breaks(0);
            Check.act(x, "pack()", 1, x::pack);
            Check.due("in forests", "-1 0 1", homes(x, 3));
        });
        Check.says("17: 0: there is none that could be", () -> {
            ForestPacks x = Check.net(1, 2, "ab ab");
            Check.into(x, 0, 1);
            Check.idle(x, "pack()", 0, x::pack);
            ForestPacks y = new ForestPacks();
            Check.idle(y, "pack() without lines", 0, y::pack);
        });
        Check.says("17: as many as MOST of K", () -> {
            ForestPacks x = Check.net(3, 10, "ab bc cd de ef fg gh hi ij ja ab bc cd de ef fg gh hi ij ja ab ab ab ab");
            Check.due("pack()", x.most(3), x.pack());
            Check.due("three of six LINES between two POINTS", 21, x.now(4));
            Check.due("pack()", 0, x.pack());
        });
    }

    private static void trade() {
        Check.says("18: the other LINE; both change their FORESTS", () -> {
            ForestPacks x = twoTrees();
            Check.act(x, "trade(2, 1)", 3, () -> x.trade(2, 1));
            Check.due("in forests", "0 0 1 0 1 1", homes(x, 6));
        });
        Check.says("TRADE: the first LINE m of those by which neither goes round", () -> {
            // 1 (b-d) goes over 3, 4, 5 in forest 1, and each of these can be the other one.
            ForestPacks x = twoTrees();
            Check.due("ring", Check.set(3, 4, 5), x.ring(1, 1));
            Check.due("trade(1, 1)", 3, x.trade(1, 1));
        });
        Check.says("TRADE: not a LINE that is not on its RING", () -> {
            // 1 (a-b) in place of 0 (b-c) would go round with 2 (a-b).
            ForestPacks x = Check.net(2, 3, "bc ab ab ac");
            Check.into(x, 0, 1, 3);
            Check.into(x, 1, 0, 2);
            Check.due("trade(1, 1)", 2, x.trade(1, 1));
            Check.due("in forests", "1 1 0 0", homes(x, 4));
        });
        Check.says("TRADE: not a LINE that is on its RING, if it is not on the RING of that", () -> {
            // 3 (a-c) in forest 1 goes over 0 and 1; 0 (b-c) in forest 0 goes over 2 alone.
            ForestPacks x = Check.net(2, 4, "bc ab bc ac cd ad");
            Check.into(x, 0, 2, 3, 4);
            Check.into(x, 1, 0, 1, 5);
            Check.due("ring of 3", Check.set(0, 1), x.ring(3, 1));
            Check.due("ring of 0", Check.set(2), x.ring(0, 0));
            Check.due("trade(3, 1)", 1, x.trade(3, 1));
        });
        Check.says("18: LINE 0 can be the other one", () -> {
            ForestPacks x = twoTrees();
            Check.act(x, "trade(3, 0)", 0, () -> x.trade(3, 0));
            Check.due("in forests", "1 0 0 0 1 1", homes(x, 6));
        });
        Check.says("18: a LINE between the same POINTS can be the other one", () -> {
            ForestPacks x = Check.net(2, 2, "ab ba");
            Check.into(x, 0, 0);
            Check.into(x, 1, 1);
            Check.act(x, "trade(0, 1)", 1, () -> x.trade(0, 1));
            Check.act(x, "trade(0, 0)", 1, () -> x.trade(0, 0));
        });
        Check.says("18: NONE: it lies in none", () -> {
            ForestPacks x = twoTrees();
            x.breaks(7);
            Check.idle(x, "trade(6, 1)", -1, () -> x.trade(6, 1));
            Check.idle(x, "trade(7, 1)", -1, () -> x.trade(7, 1));
        });
        Check.says("18: NONE: it lies there", () -> {
            ForestPacks x = twoTrees();
            Check.idle(x, "trade(0, 0)", -1, () -> x.trade(0, 0));
            Check.idle(x, "trade(5, 1)", -1, () -> x.trade(5, 1));
        });
        Check.says("18: NONE: its own FOREST has fewer LINES than POINTS less 1", () -> {
            ForestPacks x = twoTrees();
            x.lift(1);
            Check.idle(x, "trade(0, 1)", -1, () -> x.trade(0, 1));
            ForestPacks y = Check.net(2, 3, "ab ab bc");
            Check.into(y, 0, 0);
            Check.into(y, 1, 1, 2);
            Check.idle(y, "trade(0, 1), though neither would go round", -1, () -> y.trade(0, 1));
        });
        Check.says("18: NONE: the other one has fewer LINES than POINTS less 1", () -> {
            ForestPacks x = twoTrees();
            x.lift(4);
            Check.idle(x, "trade(0, 1)", -1, () -> x.trade(0, 1));
            x.forests(3);
            Check.idle(x, "trade(0, 2)", -1, () -> x.trade(0, 2));
            ForestPacks y = Check.net(2, 3, "ab ab bc");
            Check.into(y, 0, 0);
            Check.into(y, 1, 1, 2);
            Check.idle(y, "trade(1, 0), though neither would go round", -1, () -> y.trade(1, 0));
        });
        Check.says("18: NONE: no such LINE", () -> {
            ForestPacks x = twoTrees();
            Check.idle(x, "trade(9, 1)", -1, () -> x.trade(9, 1));
            Check.idle(x, "trade(-1, 1)", -1, () -> x.trade(-1, 1));
            for (int far : Check.FAR) {
                Check.idle(x, "trade(" + far + ", 1)", -1, () -> x.trade(far, 1));
            }
        });
        Check.says("18: NONE: no such FOREST", () -> {
            ForestPacks x = twoTrees();
            Check.idle(x, "trade(0, 2)", -1, () -> x.trade(0, 2));
            Check.idle(x, "trade(0, -1)", -1, () -> x.trade(0, -1));
            Check.idle(x, "trade(6, -1)", -1, () -> x.trade(6, -1));
            for (int far : Check.FAR) {
                Check.idle(x, "trade(0, " + far + ")", -1, () -> x.trade(0, far));
            }
        });
    }
}
