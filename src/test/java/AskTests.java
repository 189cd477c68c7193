import java.util.function.IntUnaryOperator;
import java.util.function.ToIntFunction;

/** What is told of sound lines alone: promises 28 to 40, sentence by sentence. */
public final class AskTests {
    private static final String WAY = "ab bc cd de ef fg gh hi ij";
    private static final String ROUND = WAY + " ja";
    private static final int ALL = 1023;

    public static void main(String[] args) {
        most();
        fewest();
        trees();
        thick();
        thickTies();
        crowded();
        strength();
        even();
        rooted();
        outTree();
        vital();
        layers();
        layerAt();
        light();
        nothingChanges();
        Check.end("questions");
    }

    private static ForestPacks none() {
        return new ForestPacks();
    }

    private static ForestPacks onePoint() {
        return Check.net(2, 1, "");
    }

    private static ForestPacks twoPoints() {
        return Check.net(2, 2, "");
    }

    private static ForestPacks many() {
        return Check.net(2, 2, "ab ".repeat(24));
    }

    /** Nine lines, one way over ten points. */
    private static ForestPacks way() {
        return Check.net(2, 10, WAY);
    }

    /** Twenty lines: twice round ten points. */
    private static ForestPacks round() {
        return Check.net(2, 10, ROUND + " " + ROUND);
    }

    /** Two points, each with a line to each of three others. */
    private static ForestPacks twoByThree() {
        return Check.net(2, 5, "ac ad ae bc bd be");
    }

    private static void refused(ForestPacks x, String name, IntUnaryOperator call, int... ones) {
        for (int one : ones) {
            Check.idle(x, name + " of " + one, -1, () -> call.applyAsInt(one));
        }
        for (int far : Check.FAR) {
            Check.idle(x, name + " of " + far, -1, () -> call.applyAsInt(far));
        }
    }

    private static void breakAll(ForestPacks x) {
        for (int l = 0; l < x.now(1); l++) {
            x.breaks(l);
        }
    }

    private static void most() {
        Check.says("MOST of k: how many LINES can lie in k FORESTS", () -> {
            int[] want = {0, 9, 18, 20, 20};
            for (int k = 0; k < want.length; k++) {
                Check.due("most(" + k + ")", want[k], round().most(k));
            }
            Check.due("most(1)", 9, way().most(1));
        });
        Check.says("28: k is 0 to 24", () -> {
            for (int k = 0; k <= 24; k++) {
                Check.due("most(" + k + ") of 24", k, many().most(k));
                Check.due("most(" + k + ") without points", 0, none().most(k));
                Check.due("most(" + k + ") of one point", 0, onePoint().most(k));
            }
        });
        Check.says("28: NONE: not as told", () -> {
            refused(many(), "most", many()::most, -1, 25);
            refused(none(), "most", none()::most, -1, 25);
        });
        Check.says("MOST: of SOUND LINES alone", () -> {
            ForestPacks x = many();
            x.breaks(0);
            x.breaks(23);
            Check.due("most(24)", 22, x.most(24));
            breakAll(x);
            Check.due("most(24)", 0, x.most(24));
        });
    }

    private static void fewest() {
        Check.says("FEWEST: the least k by which all can", () -> {
            Check.due("a way", 1, way().fewest());
            Check.due("twice round", 3, round().fewest());
            Check.due("a triangle", 2, Check.net(2, 3, "ab bc ca").fewest());
            Check.due("a crowd of two points", 3, Check.net(2, 10, WAY + " ij ij").fewest());
            Check.due("24", 24, many().fewest());
        });
        Check.says("29: 0: no SOUND LINES", () -> {
            Check.due("none", 0, none().fewest());
            Check.due("one point", 0, onePoint().fewest());
            Check.due("two points", 0, twoPoints().fewest());
            ForestPacks x = many();
            breakAll(x);
            Check.due("all broken", 0, x.fewest());
            x.mend(23);
            Check.due("one mended", 1, x.fewest());
        });
        Check.says("FEWEST: MOST of it is all, MOST of one less is not", () -> {
            ForestPacks x = Check.net(2, 5, "ab ab ac ad ae bc bd be cd ce de ab cd cd cd");
            int few = x.fewest();
            Check.due("most()", 15, x.most(few));
            Check.due("most() of one less", true, x.most(few - 1) < 15);
        });
    }

    private static void trees() {
        Check.says("TREES: the greatest k so that MOST of k is k times POINTS less 1", () -> {
            Check.due("a way", 1, way().trees());
            Check.due("twice round", 2, round().trees());
            Check.due("24", 24, many().trees());
            Check.due("6 lines are fewer than 2 times 4", 1, twoByThree().trees());
        });
        Check.says("TREES: 0, if a POINT is apart", () -> {
            Check.due("two points", 0, twoPoints().trees());
            ForestPacks x = way();
            x.breaks(0);
            Check.due("a way with a broken line", 0, x.trees());
        });
        Check.says("30: NONE: fewer than two POINTS", () -> {
            Check.due("none", -1, none().trees());
            Check.due("one", -1, onePoint().trees());
        });
    }

    private static void told(ForestPacks x, String want, IntUnaryOperator call) {
        Check.due("0, 1, 2", want, call.applyAsInt(0) + " " + call.applyAsInt(1) + " " + call.applyAsInt(2));
    }

    private static void thick() {
        Check.says("THICK: the greatest fraction of INNER and POINTS less 1", () -> {
            ForestPacks x = round();
            told(x, "20 9 1023", x::thick);
            ForestPacks y = many();
            told(y, "24 1 3", y::thick);
            ForestPacks z = Check.net(2, 10, WAY + " hj gj");
            told(z, "5 3 960", z::thick);
        });
        Check.says("31: the fraction in least terms", () -> {
            ForestPacks x = twoByThree();
            told(x, "3 2 31", x::thick);
        });
        Check.says("31: 0 by 1, if it is 0", () -> {
            ForestPacks x = twoPoints();
            told(x, "0 1 3", x::thick);
            ForestPacks y = round();
            breakAll(y);
            told(y, "0 1 3", y::thick);
        });
        Check.says("31: NONE: fewer than two POINTS", () -> {
            for (int what = 0; what < 3; what++) {
                Check.due("none", -1, none().thick(what));
                Check.due("one", -1, onePoint().thick(what));
            }
        });
        Check.says("31: NONE: another what", () -> {
            refused(round(), "thick", round()::thick, 3, -1);
            refused(none(), "thick", none()::thick, 3, -1);
        });
        Check.says("THICK: of SOUND LINES alone", () -> {
            ForestPacks x = round();
            x.breaks(0);
            told(x, "19 9 1023", x::thick);
            x.breaks(10);
            told(x, "2 1 6", x::thick);
        });
    }

    private static void thickTies() {
        Check.says("THICK: of like ones the fewest POINTS", () -> {
            ForestPacks x = Check.net(2, 5, "ab bc ca de de bd bd");
            told(x, "2 1 10", x::thick);
            ForestPacks y = Check.net(2, 5, "ab ab bc bc");
            told(y, "2 1 3", y::thick);
            ForestPacks z = Check.net(2, 6, "ab bc cd da ac de ef df de ef df");
            told(z, "3 1 56", z::thick);
        });
        Check.says("THICK: then the least as a number", () -> {
            ForestPacks x = Check.net(2, 4, "cd bc ad ab");
            told(x, "4 3 15", x::thick);
            ForestPacks y = Check.net(2, 5, "ae cd bc");
            told(y, "1 1 6", y::thick);
            ForestPacks z = Check.net(2, 4, "ad bc");
            told(z, "1 1 6", z::thick);
        });
        Check.says("THICK: the fewest POINTS ahead of the least number", () -> {
            ForestPacks x = Check.net(2, 5, "ab ab bc bc ac ac de de de");
            told(x, "3 1 24", x::thick);
        });
    }

    private static void crowded() {
        Check.says("CROWDED by k: the set by which INNER is the most above k times POINTS less 1", () -> {
            Check.due("crowded(0)", ALL, round().crowded(0));
            Check.due("crowded(1)", ALL, round().crowded(1));
            Check.due("crowded(2)", ALL, round().crowded(2));
            ForestPacks x = Check.net(2, 5, "ab ab ab bc bc cd de");
            Check.due("crowded(1)", 7, x.crowded(1));
            Check.due("crowded(2)", 3, x.crowded(2));
        });
        Check.says("32: 0: INNER of none is above that", () -> {
            Check.due("twice round", 0, round().crowded(3));
            Check.due("a way", 0, way().crowded(1));
            Check.due("24 by 24", 0, many().crowded(24));
            Check.due("24 by 23", 3, many().crowded(23));
            Check.due("two points", 0, twoPoints().crowded(0));
        });
        Check.says("32: 0 with fewer than two POINTS", () -> {
            for (int k = 0; k <= 24; k++) {
                Check.due("none", 0, none().crowded(k));
                Check.due("one", 0, onePoint().crowded(k));
            }
        });
        Check.says("CROWDED: of like ones the fewest POINTS", () -> {
            Check.due("ab and all", 3, Check.net(2, 4, "ab ab bc cd").crowded(1));
            Check.due("without a, d", 6, Check.net(2, 4, "bc").crowded(0));
            Check.due("ce, not abd, not all", 20, Check.net(2, 5, "ab bd da ce ce").crowded(1));
        });
        Check.says("CROWDED: then the least as a number", () -> {
            Check.due("ab", 3, Check.net(2, 4, "cd cd ab ab").crowded(1));
            Check.due("bc", 6, Check.net(2, 4, "ad ad bc bc").crowded(1));
        });
        Check.says("32: NONE: not as told", () -> {
            refused(round(), "crowded", round()::crowded, -1, 25);
            refused(none(), "crowded", none()::crowded, -1, 25);
        });
        Check.says("CROWDED: of SOUND LINES alone", () -> {
            ForestPacks x = Check.net(2, 4, "ab ab cd cd");
            x.breaks(0);
            Check.due("crowded(1)", 12, x.crowded(1));
            breakAll(x);
            Check.due("crowded(0)", 0, x.crowded(0));
        });
    }

    private static void strength() {
        Check.says("STRENGTH: the least fraction of LINES between unlike PIECES and PIECES less 1", () -> {
            ForestPacks x = round();
            told(x, "20 9 10", x::strength);
            ForestPacks y = many();
            told(y, "24 1 2", y::strength);
            ForestPacks z = Check.net(2, 4, "ab bc ca ab bc ca cd");
            told(z, "1 1 2", z::strength);
            ForestPacks w = Check.net(2, 4, "ab ab ab bc cd bd");
            told(w, "3 2 3", w::strength);
        });
        Check.says("33: the fraction in least terms", () -> {
            ForestPacks x = twoByThree();
            told(x, "3 2 5", x::strength);
        });
        Check.says("33: 0 by 1, if it is 0", () -> {
            ForestPacks x = twoPoints();
            told(x, "0 1 2", x::strength);
            ForestPacks y = Check.net(2, 10, "");
            told(y, "0 1 2", y::strength);
        });
        Check.says("STRENGTH: of like ones the fewest PIECES", () -> {
            ForestPacks x = way();
            told(x, "1 1 2", x::strength);
            ForestPacks y = Check.net(2, 5, "ab bc ca cd de ec");
            told(y, "3 2 3", y::strength);
        });
        Check.says("STRENGTH: by LINES as they are, not as they were", () -> {
            ForestPacks x = round();
            breakAll(x);
            told(x, "0 1 2", x::strength);
            for (int l = 0; l < 20; l++) {
                x.mend(l);
            }
            told(x, "20 9 10", x::strength);
        });
        Check.says("STRENGTH: of SOUND LINES alone", () -> {
            ForestPacks x = round();
            x.breaks(0);
            x.breaks(10);
            told(x, "2 1 2", x::strength);
            x.breaks(5);
            told(x, "1 1 2", x::strength);
            x.breaks(15);
            told(x, "0 1 2", x::strength);
        });
        Check.says("33: NONE: fewer than two POINTS", () -> {
            for (int what = 0; what < 3; what++) {
                Check.due("none", -1, none().strength(what));
                Check.due("one", -1, onePoint().strength(what));
            }
        });
        Check.says("33: NONE: another what", () -> {
            refused(round(), "strength", round()::strength, 3, -1);
            refused(none(), "strength", none()::strength, 3, -1);
        });
    }

    private static void even() {
        Check.says("EVEN: the greatest of INNER by how many POINTS it is of, rounded up", () -> {
            Check.due("one line: 1 by 2", 1, Check.net(2, 2, "ab").even());
            Check.due("2 by 2", 1, Check.net(2, 2, "ab ab").even());
            Check.due("3 by 2", 2, Check.net(2, 2, "ab ab ab").even());
            Check.due("24 by 2", 12, many().even());
            Check.due("9 by 10", 1, way().even());
            Check.due("20 by 10", 2, round().even());
            Check.due("21 by 10", 3, Check.net(2, 10, ROUND + " " + ROUND + " af").even());
            Check.due("6 by 5", 2, twoByThree().even());
            Check.due("3 by 3", 1, Check.net(2, 3, "ab bc ca").even());
            Check.due("5 by 2 of the last two", 3, Check.net(2, 10, "ij ij ij ij ij").even());
        });
        Check.says("34: 0: no SOUND LINES", () -> {
            Check.due("none", 0, none().even());
            Check.due("one point", 0, onePoint().even());
            Check.due("two points", 0, twoPoints().even());
            ForestPacks x = round();
            breakAll(x);
            Check.due("all broken", 0, x.even());
        });
        Check.says("EVEN: of SOUND LINES alone, however they are TURNED", () -> {
            ForestPacks x = Check.net(2, 2, "ab ab ab");
            x.turn(0);
            Check.due("turned", 2, x.even());
            x.breaks(0);
            Check.due("broken", 1, x.even());
        });
    }

    private static void rooted() {
        Check.says("ROOTED: of all sets of POINTS without r the fewest LINES that come into it", () -> {
            for (int r = 0; r < 10; r++) {
                Check.due("twice round from " + r, 2, round().rooted(r));
                Check.due("a way from " + r, r == 0 ? 1 : 0, way().rooted(r));
            }
            Check.due("24 from a", 24, many().rooted(0));
            Check.due("24 from b", 0, many().rooted(1));
            Check.due("two points", 0, twoPoints().rooted(0));
        });
        Check.says("ROOTED: a set of more POINTS can have the fewest", () -> {
            ForestPacks x = Check.net(2, 3, "ab bc cb bc cb");
            Check.due("into b, c", 1, x.rooted(0));
            ForestPacks y = Check.net(2, 4, "da db dc ab bc ca ab bc ca");
            Check.due("into a, b, c", 3, y.rooted(3));
            y.breaks(0);
            Check.due("into a, b, c", 2, y.rooted(3));
        });
        Check.says("ROOTED: a set of one POINT can have the fewest", () -> {
            ForestPacks x = Check.net(2, 3, "ab ab ac ac bc cb ac");
            Check.due("into b", 3, x.rooted(0));
            ForestPacks y = Check.net(2, 3, "ab ac ac cb");
            y.breaks(3);
            Check.due("into b", 1, y.rooted(0));
        });
        Check.says("ROOTED: by LINES as they are TURNED, SOUND ones alone", () -> {
            ForestPacks x = Check.net(2, 2, "ab ab ab ba");
            x.turn(0);
            x.breaks(1);
            Check.due("from a", 1, x.rooted(0));
            Check.due("from b", 2, x.rooted(1));
        });
        Check.says("35: NONE: no such one", () -> {
            refused(round(), "rooted", round()::rooted, 10, -1);
            refused(many(), "rooted", many()::rooted, 2, -1);
        });
        Check.says("35: NONE: fewer than two POINTS", () -> {
            Check.due("none", -1, none().rooted(0));
            Check.due("one", -1, onePoint().rooted(0));
        });
    }

    private static void outTree() {
        Check.says("OUT-TREES of r: as many as ROOTED in r", () -> {
            for (int i = 0; i < 24; i++) {
                Check.due("outTree(0, " + i + ")", 1 << i, many().outTree(0, i));
            }
            refused(many(), "outTree(0, i)", i -> many().outTree(0, i), 24, -1);
            refused(many(), "outTree(1, i)", i -> many().outTree(1, i), 0, -1);
        });
        Check.says("OUT-TREES: one by one, from r on, till all POINTS are come to", () -> {
            ForestPacks x = round();
            Check.due("the first from f", ALL & ~16, x.outTree(5, 0));
            Check.due("the second from f", (ALL & ~16) << 10, x.outTree(5, 1));
            Check.due("the first from a", 511, x.outTree(0, 0));
            Check.due("the first from j", ALL & ~256, x.outTree(9, 0));
            Check.due("no third", -1, x.outTree(5, 2));
        });
        Check.says("OUT-TREES: not a LINE without which what is left is not ROOTED by as many as are to come", () -> {
            // From a: 1 (a-b). Then 2 (a-c) would leave no LINE that comes into b, c: 3 (b-c).
            ForestPacks x = Check.net(2, 3, "cb ab ac bc");
            Check.due("rooted", 2, x.rooted(0));
            Check.due("the first", Check.set(1, 3), x.outTree(0, 0));
            Check.due("the second", Check.set(0, 2), x.outTree(0, 1));
        });
        Check.says("OUT-TREES: the first one of those, LINES by number", () -> {
            ForestPacks x = Check.net(2, 3, "ac ab bc");
            Check.due("the first", Check.set(0, 1), x.outTree(0, 0));
            ForestPacks y = Check.net(2, 3, "bc ab ac");
            Check.due("the first", Check.set(0, 1), y.outTree(0, 0));
        });
        Check.says("OUT-TREES: three of them, of LINES that are in none of these yet", () -> {
            ForestPacks x = Check.net(2, 3, "ab ab bc bc ac cb");
            Check.due("rooted", 3, x.rooted(0));
            Check.due("the first", Check.set(0, 2), x.outTree(0, 0));
            Check.due("the second", Check.set(1, 3), x.outTree(0, 1));
            Check.due("the third", Check.set(4, 5), x.outTree(0, 2));
        });
        Check.says("OUT-TREES: LINES as they are TURNED, SOUND ones alone", () -> {
            ForestPacks x = Check.net(2, 3, "ab cb ac");
            Check.due("as told", Check.set(0, 2), x.outTree(0, 0));
            x.breaks(2);
            Check.due("none to c", -1, x.outTree(0, 0));
            x.turn(1);
            Check.due("turned", Check.set(0, 1), x.outTree(0, 0));
        });
        Check.says("36: NONE: no such POINT", () -> {
            refused(round(), "outTree(r, 0)", r -> round().outTree(r, 0), 10, -1);
            refused(many(), "outTree(r, 0)", r -> many().outTree(r, 0), 2, -1);
        });
        Check.says("36: NONE: no such OUT-TREE", () -> {
            refused(round(), "outTree(0, i)", i -> round().outTree(0, i), 2, -1);
            refused(twoPoints(), "outTree(0, i)", i -> twoPoints().outTree(0, i), 0, -1);
        });
        Check.says("36: NONE: fewer than two POINTS", () -> {
            Check.due("none", -1, none().outTree(0, 0));
            Check.due("one", -1, onePoint().outTree(0, 0));
        });
    }

    private static void vital() {
        Check.says("VITAL: LINES without which MOST of K would be less", () -> {
            Check.due("a way", 511, way().vital());
            Check.due("twice round, 2 of 3 ways", 0, round().vital());
            ForestPacks x = Check.net(1, 5, "ab bc ca cd de");
            Check.due("those that are on no way round", Check.set(3, 4), x.vital());
            ForestPacks y = Check.net(2, 4, "ab ab ab bc bc cd");
            Check.due("those that are in no crowd", Check.set(3, 4, 5), y.vital());
        });
        Check.says("VITAL: by K as it is", () -> {
            ForestPacks x = round();
            x.forests(3);
            Check.due("K 3", (1 << 20) - 1, x.vital());
            x.forests(1);
            Check.due("K 1", 0, x.vital());
            ForestPacks y = many();
            y.forests(5);
            Check.due("K 5", 0, y.vital());
        });
        Check.says("37: none: 0", () -> {
            Check.due("none", 0, none().vital());
            Check.due("one point", 0, onePoint().vital());
            Check.due("two points", 0, twoPoints().vital());
        });
        Check.says("VITAL: of SOUND LINES alone, whether they lie in FORESTS or not", () -> {
            ForestPacks x = Check.net(1, 3, "ab ab bc bc");
            Check.due("none", 0, x.vital());
            Check.into(x, 0, 0);
            Check.due("none", 0, x.vital());
            x.breaks(0);
            Check.due("line 1", 2, x.vital());
            x.breaks(3);
            Check.due("lines 1, 2", 6, x.vital());
        });
        Check.says("VITAL: a LINE left out does for all of its least crowd, and no more", () -> {
            // a, b, c are full with 0 to 3; 4 is left out; d hangs on 5, 6.
            ForestPacks x = Check.net(2, 4, "ab ab bc bc ac cd cd");
            Check.due("lines 5, 6", Check.set(5, 6), x.vital());
            ForestPacks y = Check.net(2, 4, "cd cd bc bc ab ab ac");
            Check.due("lines 0, 1", Check.set(0, 1), y.vital());
            ForestPacks z = Check.net(1, 4, "ab ac bc cd");
            Check.due("line 3", 8, z.vital());
        });
    }

    private static void layers() {
        Check.says("LAYERS: as long as there are LINES between POINTS that are not one", () -> {
            Check.due("a way: nine", 9, way().layers());
            Check.due("twice round: one", 1, round().layers());
            Check.due("24 lines: one", 1, many().layers());
            Check.due("one line: one", 1, Check.net(2, 2, "ab").layers());
            Check.due("the first line last: two", 2, Check.net(2, 4, "ab cd cd").layers());
            Check.due("two apart: two", 2, Check.net(2, 4, "ab cd").layers());
        });
        Check.says("38: none: 0", () -> {
            Check.due("none", 0, none().layers());
            Check.due("one point", 0, onePoint().layers());
            Check.due("ten points", 0, Check.net(2, 10, "").layers());
            ForestPacks x = round();
            breakAll(x);
            Check.due("all broken", 0, x.layers());
        });
        Check.says("LAYERS: the THICK set melts, the thickest first", () -> {
            ForestPacks x = Check.net(2, 5, "ab bc ca cd de de");
            Check.due("layers", 3, x.layers());
            layer(x, 0, "2 1 24");
            layer(x, 1, "3 2 7");
            layer(x, 2, "1 1 31");
        });
        Check.says("LAYERS: of SOUND LINES alone", () -> {
            ForestPacks x = Check.net(2, 5, "ab bc ca cd de de");
            x.breaks(4);
            x.breaks(3);
            Check.due("layers", 2, x.layers());
            layer(x, 0, "3 2 7");
            layer(x, 1, "1 1 24");
        });
    }

    private static void layer(ForestPacks x, int i, String want) {
        told(x, want, what -> x.layerAt(i, what));
    }

    private static void layerAt() {
        Check.says("39: the first is THICK", () -> {
            ForestPacks x = twoByThree();
            layer(x, 0, "3 2 31");
            ForestPacks y = round();
            layer(y, 0, "20 9 1023");
        });
        Check.says("LAYERS: those that are one count as the least of them", () -> {
            // c, d melt to c; then a-b (as a number 3) comes ahead of b-c (6), then a-c.
            ForestPacks x = Check.net(2, 4, "cd cd bd ab");
            layer(x, 0, "2 1 12");
            layer(x, 1, "1 1 3");
            layer(x, 2, "1 1 15");
            // a, d melt to a; then a-c (5) comes ahead of b-c (6).
            ForestPacks y = Check.net(2, 4, "ad ad bc cd");
            layer(y, 0, "2 1 9");
            layer(y, 1, "1 1 13");
            layer(y, 2, "1 1 15");
        });
        Check.says("LAYERS: those that are one count as one POINT among the fewest", () -> {
            ForestPacks x = Check.net(2, 5, "ab bc ca cd de");
            layer(x, 0, "3 2 7");
            layer(x, 1, "1 1 15");
            layer(x, 2, "1 1 31");
        });
        Check.says("LAYERS: LINES of melted POINTS count together", () -> {
            // a-c and b-c are two LINES between two POINTS once a, b are one.
            ForestPacks x = Check.net(2, 3, "ab ab ab ac bc");
            layer(x, 0, "3 1 3");
            layer(x, 1, "2 1 7");
            Check.due("layers", 2, x.layers());
        });
        Check.says("39: 2 all POINTS that are one by it, as a set", () -> {
            ForestPacks x = way();
            for (int i = 0; i < 9; i++) {
                layer(x, i, "1 1 " + ((4 << i) - 1));
            }
        });
        Check.says("39: the fraction in least terms", () -> {
            // 6 by 4 once the crowd of f, g is melted.
            ForestPacks x = Check.net(2, 6, "af ad ae bc bd be fc fc fc");
            layer(x, 0, "3 1 36");
            layer(x, 1, "3 2 63");
        });
        Check.says("39: NONE: no such LAYER", () -> {
            refused(way(), "layerAt(i, 0)", i -> way().layerAt(i, 0), 9, 10, 11, -1);
            refused(round(), "layerAt(i, 2)", i -> round().layerAt(i, 2), 1, -1);
            refused(none(), "layerAt(i, 2)", i -> none().layerAt(i, 2), 0, -1);
            refused(twoPoints(), "layerAt(i, 1)", i -> twoPoints().layerAt(i, 1), 0, -1);
        });
        Check.says("39: NONE: no such what", () -> {
            refused(way(), "layerAt(0, what)", what -> way().layerAt(0, what), 3, -1);
        });
    }

    private static void light() {
        Check.says("LIGHT of k: LINES by WEIGHT", () -> {
            ForestPacks x = Check.net(2, 2, "ab3 ab2 ab1");
            Check.due("light(1)", "1 4", x.light(1, 0) + " " + x.light(1, 1));
            Check.due("light(2)", "3 6", x.light(2, 0) + " " + x.light(2, 1));
            Check.due("light(3)", "6 7", x.light(3, 0) + " " + x.light(3, 1));
        });
        Check.says("LIGHT: of like ones by number", () -> {
            ForestPacks x = Check.net(2, 2, "ab2 ab2 ab9 ab2");
            Check.due("light(1)", "2 1", x.light(1, 0) + " " + x.light(1, 1));
            Check.due("light(2)", "4 3", x.light(2, 0) + " " + x.light(2, 1));
            Check.due("light(3)", "6 11", x.light(3, 0) + " " + x.light(3, 1));
        });
        Check.says("LIGHT: each is taken, if it can lie in k FORESTS together with those that were", () -> {
            ForestPacks x = Check.net(2, 4, "cd4 ac3 bc2 ab1");
            Check.due("light(1)", "7 13", x.light(1, 0) + " " + x.light(1, 1));
            Check.due("light(2)", "10 15", x.light(2, 0) + " " + x.light(2, 1));
        });
        Check.says("LIGHT: WEIGHTS of 1 and of 99", () -> {
            ForestPacks x = Check.net(2, 3, "ab99 bc99 ab98 bc1");
            Check.due("light(1)", "99 12", x.light(1, 0) + " " + x.light(1, 1));
            Check.due("light(2)", "297 15", x.light(2, 0) + " " + x.light(2, 1));
            ForestPacks y = Check.net(2, 2, "ab99 ".repeat(24));
            Check.due("light(24)", "2376 16777215", y.light(24, 0) + " " + y.light(24, 1));
        });
        Check.says("LIGHT: as many as MOST of k, by k 0 to 24", () -> {
            for (int k = 0; k <= 24; k++) {
                Check.due("light(" + k + ")", k + " " + ((1 << k) - 1), many().light(k, 0) + " " + many().light(k, 1));
                Check.due("light(" + k + ") of none", "0 0", none().light(k, 0) + " " + none().light(k, 1));
            }
        });
        Check.says("LIGHT: of SOUND LINES alone, by WEIGHTS as they are", () -> {
            ForestPacks x = Check.net(2, 2, "ab1 ab2 ab3");
            x.breaks(0);
            Check.due("light(1)", "2 2", x.light(1, 0) + " " + x.light(1, 1));
            x.weigh(1, 4);
            Check.due("light(1)", "3 4", x.light(1, 0) + " " + x.light(1, 1));
        });
        Check.says("40: NONE: not as told", () -> {
            for (int what = 0; what < 2; what++) {
                int one = what;
                refused(round(), "light(k, " + what + ")", k -> round().light(k, one), 25, -1);
            }
            refused(round(), "light(1, what)", what -> round().light(1, what), 2, -1);
            refused(none(), "light(0, what)", what -> none().light(0, what), 2, -1);
        });
    }

    private static String allAnswers(ForestPacks x) {
        StringBuilder all = new StringBuilder();
        for (int k = 0; k <= 24; k++) {
            all.append(x.most(k)).append(' ').append(x.crowded(k)).append(' ').append(x.light(k, 0)).append(' ');
            all.append(x.light(k, 1)).append('\n');
        }
        for (int what = 0; what < 3; what++) {
            all.append(x.thick(what)).append(' ').append(x.strength(what)).append(' ');
        }
        all.append(x.fewest()).append(' ').append(x.trees()).append(' ').append(x.even()).append(' ').append(x.layers());
        for (int i = 0; i < 10; i++) {
            all.append('\n').append(x.layerAt(i, 0)).append(' ').append(x.layerAt(i, 1)).append(' ').append(x.layerAt(i, 2));
            all.append(' ').append(x.rooted(i)).append(' ').append(x.outTree(i, 0)).append(' ').append(x.outTree(i, 1));
        }
        return all.toString();
    }

    private static final String CROWD = "ab3 bc1 ca4 ab1 bc5 ca9 de2 ef6 fd5 de3 ad5 bf8 cg9 gh7 hi9 ij3 jg2";

    private static void nothingChanges() {
        ToIntFunction<ForestPacks> ask = x -> {
            allAnswers(x);
            return x.vital();
        };
        Check.says("3: nothing changes", () -> {
            ForestPacks x = Check.net(3, 10, CROWD);
            x.place(4);
            x.breaks(3);
            x.turn(2);
            x.feed(0, 0, 0, 0, 0);
            Check.idle(x, "all questions", x.vital(), () -> ask.applyAsInt(x));
            Check.due("the same again", allAnswers(x), allAnswers(x));
        });
        Check.says("3: whatever FORESTS there are", () -> {
            ForestPacks x = Check.net(1, 10, CROWD);
            String ahead = allAnswers(x);
            for (int k = 2; k <= 5; k++) {
                x.forests(k);
                x.pack();
                Check.due("by K " + k, ahead, allAnswers(x));
            }
            x.forests(1);
            Check.due("by K 1", ahead, allAnswers(x));
        });
        Check.says("3: one question leaves nothing for another one", () -> {
            ForestPacks x = Check.net(3, 10, CROWD);
            ForestPacks y = Check.net(3, 3, "ab bc cb");
            String first = allAnswers(x);
            String small = allAnswers(y);
            Check.tell(x, Check.text(3, 3, "ab bc cb"));
            Check.due("the smaller net behind the greater one", small, allAnswers(x));
            Check.tell(x, Check.text(3, 10, CROWD));
            Check.due("the greater net behind the smaller one", first, allAnswers(x));
        });
    }
}
