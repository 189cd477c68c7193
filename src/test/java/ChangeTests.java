import java.util.function.Consumer;
import java.util.function.ToIntFunction;

/** Breaks, weights, turns, eases, games, acts undone, deeds by draws, images: promises 19 to 27, 41 to 43. */
public final class ChangeTests {
    public static void main(String[] args) {
        breaks();
        mend();
        weigh();
        turn();
        load();
        easeFrom();
        easeWay();
        gameRefused();
        gameCuts();
        gameKept();
        keptAt();
        undo();
        undoCounts();
        undoLimits();
        drawnLimits();
        draws();
        deeds();
        deedsInRows();
        image();
        restore();
        Check.end("changes");
    }

    private static void noSuchLine(ForestPacks x, String name, int lines, ToIntFunction<Integer> call) {
        Check.idle(x, name + "(" + lines + ")", -1, () -> call.applyAsInt(lines));
        Check.idle(x, name + "(-1)", -1, () -> call.applyAsInt(-1));
        for (int far : Check.FAR) {
            Check.idle(x, name + "(" + far + ")", -1, () -> call.applyAsInt(far));
        }
        ForestPacks y = new ForestPacks();
        Check.due(name + "(0) without lines", -1, name.equals("load") ? y.load(0) : name.equals("turn") ? y.turn(0)
                : name.equals("mend") ? y.mend(0) : y.breaks(0));
    }

    private static void breaks() {
        Check.says("19: 0: it is BROKEN", () -> {
            ForestPacks x = Check.net(2, 2, "ab ab");
            Check.act(x, "breaks(1)", 0, () -> x.breaks(1));
            Check.due("broken", "0 1", x.line(0, 4) + " " + x.line(1, 4));
        });
        Check.says("BREAK: it is LIFTED, if it lies in one", () -> {
            ForestPacks x = Check.net(2, 2, "ab ab");
            Check.into(x, 1, 1);
            Check.act(x, "breaks(1)", 0, () -> x.breaks(1));
            Check.due("lies", -1, x.line(1, 3));
            x.undo();
            Check.due("lies there again", 1, x.line(1, 3));
        });
        Check.says("19: 1: it is", () -> {
            ForestPacks x = Check.net(2, 2, "ab ab");
            x.breaks(1);
            Check.idle(x, "breaks(1)", 1, () -> x.breaks(1));
        });
        Check.says("19: NONE: no such one", () -> {
            ForestPacks x = Check.net(2, 2, "ab ab");
            noSuchLine(x, "breaks", 2, x::breaks);
        });
        Check.says("19: the last of 24", () -> {
            ForestPacks x = Check.net(2, 2, "ab ".repeat(24));
            Check.act(x, "breaks(23)", 0, () -> x.breaks(23));
            Check.due("sound", 23, x.now(3));
        });
    }

    private static void mend() {
        Check.says("20: 0: it is SOUND again, and lies in none", () -> {
            ForestPacks x = Check.net(2, 2, "ab ab");
            Check.into(x, 1, 1);
            x.breaks(1);
            Check.act(x, "mend(1)", 0, () -> x.mend(1));
            Check.due("broken, lies", "0 -1", x.line(1, 4) + " " + x.line(1, 3));
        });
        Check.says("20: 1: it is SOUND", () -> {
            ForestPacks x = Check.net(2, 2, "ab ab");
            Check.into(x, 1, 1);
            Check.idle(x, "mend(0)", 1, () -> x.mend(0));
            Check.idle(x, "mend(1)", 1, () -> x.mend(1));
        });
        Check.says("20: NONE: no such one", () -> {
            ForestPacks x = Check.net(2, 2, "ab ab");
            noSuchLine(x, "mend", 2, x::mend);
        });
    }

    private static void weigh() {
        Check.says("21: 0: it has another WEIGHT, 1 to 99", () -> {
            ForestPacks x = Check.net(2, 2, "ab5 ab5");
            Check.act(x, "weigh(0, 1)", 0, () -> x.weigh(0, 1));
            Check.act(x, "weigh(1, 99)", 0, () -> x.weigh(1, 99));
            Check.due("weights", "1 99", x.line(0, 2) + " " + x.line(1, 2));
        });
        Check.says("21: a BROKEN one, too", () -> {
            ForestPacks x = Check.net(2, 2, "ab5 ab5");
            x.breaks(0);
            Check.act(x, "weigh(0, 6)", 0, () -> x.weigh(0, 6));
        });
        Check.says("21: 1: it has that", () -> {
            ForestPacks x = Check.net(2, 2, "ab1 ab99");
            Check.idle(x, "weigh(0, 1)", 1, () -> x.weigh(0, 1));
            Check.idle(x, "weigh(1, 99)", 1, () -> x.weigh(1, 99));
        });
        Check.says("21: NONE: no such WEIGHT", () -> {
            ForestPacks x = Check.net(2, 2, "ab5 ab5");
            for (int w : new int[] {0, 100, -1}) {
                Check.idle(x, "weigh(0, " + w + ")", -1, () -> x.weigh(0, w));
            }
            for (int far : Check.FAR) {
                Check.idle(x, "weigh(0, " + far + ")", -1, () -> x.weigh(0, far));
            }
        });
        Check.says("21: NONE: no such LINE", () -> {
            ForestPacks x = Check.net(2, 2, "ab5 ab5");
            Check.idle(x, "weigh(2, 7)", -1, () -> x.weigh(2, 7));
            Check.idle(x, "weigh(-1, 7)", -1, () -> x.weigh(-1, 7));
            for (int far : Check.FAR) {
                Check.idle(x, "weigh(" + far + ", 7)", -1, () -> x.weigh(far, 7));
            }
        });
    }

    private static void turn() {
        Check.says("22: the POINT out of which it is then", () -> {
            ForestPacks x = Check.net(2, 10, "ja ab");
            Check.act(x, "turn(0)", 0, () -> x.turn(0));
            Check.act(x, "turn(0)", 9, () -> x.turn(0));
            Check.act(x, "turn(1)", 1, () -> x.turn(1));
        });
        Check.says("22: a BROKEN one, too: it is so when it is mended", () -> {
            ForestPacks x = Check.net(2, 2, "ab");
            x.breaks(0);
            Check.due("turn(0)", 1, x.turn(0));
            Check.due("an act", 2, x.now(7));
            x.mend(0);
            Check.due("loads", "0 1", x.load(0) + " " + x.load(1));
        });
        Check.says("22: NONE: no such one", () -> {
            ForestPacks x = Check.net(2, 2, "ab ab");
            noSuchLine(x, "turn", 2, x::turn);
        });
        Check.says("22: it lies where it lay", () -> {
            ForestPacks x = Check.net(2, 2, "ab ab");
            Check.into(x, 1, 0);
            x.turn(0);
            Check.due("lies", 1, x.line(0, 3));
            Check.due("ring", 1, x.ring(1, 1));
        });
    }

    private static void load() {
        Check.says("LOAD: SOUND LINES that are TURNED out of it", () -> {
            ForestPacks x = Check.net(2, 3, "ab ab bc ab");
            x.turn(1);
            x.breaks(3);
            Check.due("loads", "1 2 0", x.load(0) + " " + x.load(1) + " " + x.load(2));
        });
        Check.says("23: all 24 out of one POINT", () -> {
            ForestPacks x = Check.net(2, 10, "ja ".repeat(24));
            Check.due("loads", "0 24", x.load(0) + " " + x.load(9));
        });
        Check.says("23: NONE: no such one", () -> {
            ForestPacks x = Check.net(2, 3, "ab ab");
            noSuchLine(x, "load", 3, x::load);
        });
    }

    private static int out(ForestPacks x, int l) {
        x.turn(l);
        return x.turn(l);
    }

    private static void easeFrom() {
        Check.says("EASE: from the POINT with the greatest LOAD", () -> {
            ForestPacks x = Check.net(2, 4, "ab ab cd cd cd");
            Check.act(x, "ease()", 1, x::ease);
            Check.due("loads", "2 0 2 1", loads(x));
        });
        Check.says("EASE: of like ones the least", () -> {
            ForestPacks x = Check.net(2, 4, "bd bd ac ac");
            Check.act(x, "ease()", 1, x::ease);
            Check.due("loads", "1 2 1 0", loads(x));
            Check.due("line 2", 2, out(x, 2));
        });
        Check.says("EASE: from one to which a way led ahead", () -> {
            ForestPacks x = Check.net(2, 3, "ab ab bc bc bc");
            for (int l = 2; l < 5; l++) {
                x.breaks(l);
            }
            Check.due("from a to b", 1, x.ease());
            for (int l = 2; l < 5; l++) {
                x.mend(l);
            }
            x.breaks(0);
            Check.act(x, "ease() from b to c", 1, x::ease);
            Check.due("loads", "1 2 1", loads(x));
        });
        Check.says("EASE: there is no such way from that one, though there is from a like one", () -> {
            ForestPacks x = Check.net(2, 4, "ab ab ba ba cd cd");
            Check.idle(x, "ease()", 0, x::ease);
        });
        Check.says("EASE: a LOAD less by 2 or more, not by 1", () -> {
            ForestPacks x = Check.net(2, 2, "ab");
            Check.idle(x, "ease()", 0, x::ease);
            ForestPacks y = Check.net(2, 3, "ab ab bc");
            Check.due("ease()", 2, y.ease());
            Check.due("loads", "1 1 1", loads(y));
            ForestPacks z = Check.net(2, 2, "ab ab");
            Check.due("ease()", 1, z.ease());
            ForestPacks w = Check.net(2, 2, "ab ab ab");
            Check.due("ease()", 1, w.ease());
            Check.due("ease()", 0, w.ease());
        });
        Check.says("EASE: along SOUND LINES", () -> {
            ForestPacks x = Check.net(2, 3, "ac ab ab");
            x.breaks(0);
            Check.due("ease()", 1, x.ease());
            Check.due("loads", "1 1 0", loads(x));
            ForestPacks y = Check.net(2, 3, "ab ab bc");
            y.breaks(2);
            Check.due("ease()", 1, y.ease());
            ForestPacks z = Check.net(2, 3, "ab ab bc ba");
            z.breaks(2);
            Check.idle(z, "ease()", 0, z::ease);
        });
        Check.says("EASE: BROKEN LINES are no LOAD", () -> {
            ForestPacks x = Check.net(2, 2, "ab ab");
            x.breaks(1);
            Check.idle(x, "ease()", 0, x::ease);
        });
        Check.says("24: 0: there is no such way", () -> {
            ForestPacks none = new ForestPacks();
            Check.idle(none, "ease() without points", 0, none::ease);
            ForestPacks one = Check.net(2, 1, "");
            Check.idle(one, "ease() with one point", 0, one::ease);
            ForestPacks apart = Check.net(2, 3, "ab ab ba");
            Check.idle(apart, "ease() with c apart", 0, apart::ease);
            ForestPacks against = Check.net(2, 3, "ab ab ba ca");
            against.breaks(3);
            Check.idle(against, "ease() with c behind a broken one", 0, against::ease);
        });
    }

    private static String loads(ForestPacks x) {
        StringBuilder all = new StringBuilder();
        for (int p = 0; p < x.now(0); p++) {
            all.append(p == 0 ? "" : " ").append(x.load(p));
        }
        return all.toString();
    }

    private static void easeWay() {
        Check.says("EASE: along LINES TURNED out of the POINT that one has come to, not against them", () -> {
            ForestPacks x = Check.net(2, 3, "ab ab ab ba ba cb");
            Check.idle(x, "ease()", 0, x::ease);
            x.turn(5);
            Check.due("ease()", 2, x.ease());
            Check.due("loads", "2 3 1", loads(x));
        });
        Check.says("EASE: the fewest LINES, though a longer way has a lesser LINE", () -> {
            ForestPacks x = Check.net(2, 4, "ab ad ad bc bc dc");
            Check.due("ease()", 1, x.ease());
            Check.due("line 1", 3, out(x, 1));
            Check.due("loads", "2 2 0 2", loads(x));
        });
        Check.says("EASE: of like ways the first, LINE by LINE from the front", () -> {
            ForestPacks x = Check.net(2, 4, "ab ac cd bd cd bd ab");
            Check.act(x, "ease()", 2, x::ease);
            Check.due("lines 0, 3", "1 3", out(x, 0) + " " + out(x, 3));
            Check.due("loads", "2 2 2 1", loads(x));
        });
        Check.says("EASE: of like ways the first, the last LINE the least", () -> {
            ForestPacks x = Check.net(2, 3, "ab bc bc bc ab ab");
            x.breaks(3);
            Check.due("loads", "3 2 0", loads(x));
            Check.due("ease()", 2, x.ease());
            Check.due("lines 0, 1", "1 2", out(x, 0) + " " + out(x, 1));
        });
        Check.says("EASE: the least LINE decides, not the least POINT", () -> {
            ForestPacks x = Check.net(2, 3, "ac ab");
            Check.due("ease()", 1, x.ease());
            Check.due("loads", "1 0 1", loads(x));
        });
        Check.says("24: how many LINES were TURNED: nine at most", () -> {
            ForestPacks x = Check.net(2, 10, "ab ab bc cd de ef fg gh hi ij");
            Check.act(x, "ease()", 9, x::ease);
            Check.due("loads", "1 1 1 1 1 1 1 1 1 1", loads(x));
        });
        Check.says("24: eased again and again no POINT has more than EVEN", () -> {
            ForestPacks x = Check.net(2, 10, "ab ac ad ae af ag ah ai aj ab ac ad ae af ag ah ai aj ab ac ad ae af ag");
            int times = 0;
            while (times < 100 && x.ease() > 0) {
                times++;
            }
            int most = 0;
            for (int p = 0; p < 10; p++) {
                most = Math.max(most, x.load(p));
            }
            Check.due("the greatest load", x.even(), most);
            Check.due("even()", 3, x.even());
        });
    }

    private static ForestPacks pair() {
        ForestPacks x = Check.net(3, 2, "ab ab ab ab");
        Check.into(x, 0, 0);
        Check.into(x, 1, 1);
        Check.into(x, 2, 2);
        return x;
    }

    private static int played(ForestPacks x, int... cuts) {
        Check.bytes(x, cuts);
        String ahead = Check.netOf(x) + x.now(7);
        int answer = x.game();
        Check.due("tape behind game()", 0, x.now(8));
        Check.due("the net behind game()", ahead, Check.netOf(x) + x.now(7));
        return answer;
    }

    private static void gameRefused() {
        Check.says("25: NONE: FORESTS 0 and 1 are not so: FOREST 0 does not join all POINTS", () -> {
            ForestPacks x = pair();
            x.lift(0);
            Check.due("game()", -1, played(x, 1));
        });
        Check.says("25: NONE: FOREST 1 does not join all POINTS", () -> {
            ForestPacks x = pair();
            x.lift(1);
            Check.due("game()", -1, played(x, 0));
        });
        Check.says("25: NONE: there is no FOREST 1", () -> {
            ForestPacks x = pair();
            x.forests(1);
            Check.due("game()", -1, played(x, 0));
        });
        Check.says("25: NONE: fewer than two POINTS", () -> {
            Check.due("without points", -1, played(new ForestPacks(), 0));
            Check.due("with one", -1, played(Check.net(2, 1, ""), 0));
        });
        Check.says("25: two POINTS are enough", () -> Check.due("game()", 1, played(pair(), 0)));
        Check.says("25: it can be played with an empty tape", () -> {
            ForestPacks x = pair();
            Check.due("game()", 0, played(x));
            x.lift(0);
            Check.due("game()", -1, played(x));
        });
    }

    private static void gameCuts() {
        Check.says("GAME: a byte that tells a LINE of another FOREST ends it", () -> Check.due("game()", 0, played(pair(), 2, 0)));
        Check.says("GAME: a byte that tells a LINE of no FOREST ends it", () -> Check.due("game()", 0, played(pair(), 3, 0)));
        Check.says("GAME: a byte that tells no LINE ends it", () -> {
            for (int one : new int[] {4, 24, 31, 32, 33, 64, 128, 255}) {
                Check.due("game() by " + one, 0, played(pair(), one, 0));
            }
        });
        Check.says("GAME: a byte that tells a LINE that was CUT ends it", () -> Check.due("game()", 1, played(square(), 0, 0, 1)));
        Check.says("GAME: a byte that tells a LINE that was KEPT ends it", () -> Check.due("game()", 1, played(square(), 0, 2, 1)));
        Check.says("GAME: a byte when none of these is left ends it", () -> {
            for (int one = 0; one < 256; one++) {
                Check.due("game()", 1, played(pair(), 0, one, 1));
            }
        });
        Check.says("25: how many LINES were CUT: all that can be", () -> {
            ForestPacks x = Check.net(2, 10, "ab bc cd de ef fg gh hi ij ab bc cd de ef fg gh hi ij");
            x.pack();
            Check.due("game()", 9, played(x, 0, 1, 2, 3, 4, 5, 6, 7, 8, 9));
            for (int i = 0; i < 9; i++) {
                Check.due("keptAt(" + i + ")", i + 9, x.keptAt(i));
            }
            Check.due("keptAt(9)", -1, x.keptAt(9));
        });
        Check.says("25: a tape of 640 bytes", () -> {
            ForestPacks x = pair();
            int[] all = new int[640];
            Check.due("game()", 1, played(x, all));
        });
    }

    /** Both trees are a-b-c; a-c lies in none. */
    private static ForestPacks square() {
        ForestPacks x = Check.net(2, 3, "ab bc ab bc ac");
        Check.into(x, 0, 0, 1);
        Check.into(x, 1, 2, 3);
        return x;
    }

    private static void gameKept() {
        Check.says("GAME: a LINE of FOREST 0 is CUT, one of FOREST 1 is KEPT; and the other way", () -> {
            ForestPacks x = square();
            Check.due("game()", 2, played(x, 1, 2));
            Check.due("kept", "3 0", x.keptAt(0) + " " + x.keptAt(1));
        });
        Check.says("GAME: the first LINE that joins both pieces, not the first one", () -> {
            ForestPacks x = square();
            Check.due("game()", 2, played(x, 1, 0));
            Check.due("kept", "3 2", x.keptAt(0) + " " + x.keptAt(1));
            Check.due("game()", 1, played(x, 3));
            Check.due("kept", 1, x.keptAt(0));
        });
        Check.says("GAME: of LINES that join both pieces the first", () -> {
            ForestPacks x = Check.net(2, 3, "ac bc ab bc");
            Check.into(x, 0, 2, 3);
            Check.into(x, 1, 0, 1);
            Check.due("game()", 1, played(x, 3));
            Check.due("kept", 0, x.keptAt(0));
        });
        Check.says("GAME: of the other FOREST, though a LINE of none or of its own joins them", () -> {
            ForestPacks x = Check.net(3, 3, "bc bc ab bc ab bc");
            Check.into(x, 0, 2, 3);
            Check.into(x, 1, 4, 5);
            Check.into(x, 2, 1);
            Check.due("game()", 1, played(x, 3));
            Check.due("kept", 5, x.keptAt(0));
        });
        Check.says("GAME: not one that was KEPT ahead", () -> {
            // Cut b-c of 0: a-c of 1 is kept. Cut a-b of 0: with a-c kept, b is apart, and b-c of 1 joins it.
            ForestPacks x = Check.net(2, 3, "ab bc ac bc");
            Check.into(x, 0, 0, 1);
            Check.into(x, 1, 2, 3);
            Check.due("game()", 2, played(x, 1, 0));
            Check.due("kept", "2 3", x.keptAt(0) + " " + x.keptAt(1));
        });
        Check.says("GAME: not one that was CUT ahead", () -> {
            // Cut a-b of 1: a-c of 0 is kept. Cut b-c of 0: not a-b of 1 any more, but b-c of it joins b.
            ForestPacks x = Check.net(2, 3, "ab ac bc bc");
            Check.into(x, 0, 1, 2);
            Check.into(x, 1, 0, 3);
            Check.due("game()", 2, played(x, 0, 2));
            Check.due("kept", "1 3", x.keptAt(0) + " " + x.keptAt(1));
        });
        Check.says("GAME: the one that was KEPT is one of both FORESTS from then on", () -> {
            // Cut c-d of 0: a-d of 1 is kept, and stays in 1: d-b of 1 cut then parts b alone from a, c, d.
            ForestPacks x = Check.net(2, 4, "ab bc cd ad db ac");
            Check.into(x, 0, 0, 1, 2);
            Check.into(x, 1, 3, 4, 5);
            Check.due("game()", 2, played(x, 2, 4));
            Check.due("kept", "3 0", x.keptAt(0) + " " + x.keptAt(1));
        });
    }

    private static void keptAt() {
        Check.says("26: NONE: ahead of any", () -> {
            ForestPacks x = square();
            Check.due("keptAt(0)", -1, x.keptAt(0));
        });
        Check.says("26: NONE: none such", () -> {
            ForestPacks x = square();
            played(x, 0, 1);
            Check.due("keptAt(1)", 3, x.keptAt(1));
            Check.idle(x, "keptAt(2)", -1, () -> x.keptAt(2));
            Check.idle(x, "keptAt(-1)", -1, () -> x.keptAt(-1));
            for (int far : Check.FAR) {
                Check.idle(x, "keptAt(" + far + ")", -1, () -> x.keptAt(far));
            }
        });
        Check.says("26: by the latest game() that was not NONE", () -> {
            ForestPacks x = square();
            played(x, 0, 1);
            x.lift(0);
            Check.due("game()", -1, played(x, 1));
            Check.due("kept", "2 3", x.keptAt(0) + " " + x.keptAt(1));
        });
        Check.says("26: a game() of 0 has none that was KEPT", () -> {
            ForestPacks x = square();
            played(x, 0, 1);
            Check.due("game()", 0, played(x, 9));
            Check.due("kept", -1, x.keptAt(0));
        });
        Check.says("26: a shorter game() leaves nothing of a longer one", () -> {
            ForestPacks x = square();
            played(x, 0, 1);
            Check.due("game()", 1, played(x, 2));
            Check.due("kept", "0 -1", x.keptAt(0) + " " + x.keptAt(1));
        });
        Check.says("26: a new NET, restore() leave it", () -> {
            ForestPacks x = square();
            x.image(0);
            played(x, 0);
            Check.tell(x, "point z;");
            Check.due("kept", 2, x.keptAt(0));
            x.restore(0);
            Check.due("kept", 2, x.keptAt(0));
        });
    }

    private static void undo() {
        Check.says("27: how many more can be", () -> {
            ForestPacks x = Check.net(2, 2, "ab");
            for (int w = 2; w < 7; w++) {
                x.weigh(0, w);
            }
            for (int left = 4; left >= 0; left--) {
                Check.due("undo()", left, x.undo());
                Check.due("weight", left + 1, x.line(0, 2));
            }
        });
        Check.says("27: NONE: none is", () -> {
            ForestPacks x = Check.net(2, 2, "ab");
            Check.idle(x, "undo()", -1, x::undo);
            x.turn(0);
            x.undo();
            Check.idle(x, "undo()", -1, x::undo);
        });
        Check.says("27: what was undone is not done again by another undo()", () -> {
            ForestPacks x = Check.net(2, 2, "ab5");
            x.weigh(0, 6);
            x.weigh(0, 7);
            x.undo();
            x.weigh(0, 8);
            Check.due("undo()", 1, x.undo());
            Check.due("weight", 6, x.line(0, 2));
            Check.due("undo()", 0, x.undo());
            Check.due("weight", 5, x.line(0, 2));
        });
        Check.says("27: the tape, images and what calls told stay", () -> {
            ForestPacks x = Check.net(2, 2, "ab ab");
            x.place(1);
            x.image(0);
            x.feed(0, 0, 0, 0, 0);
            x.undo();
            Check.due("tape", 20, x.now(8));
            Check.due("told", 1, x.chainAt(0, 0));
            x.restore(0);
            Check.due("kept", 0, x.line(1, 3));
        });
    }

    private static void counts(String call, boolean should, Consumer<ForestPacks> run) {
        ForestPacks x = Check.net(2, 3, "ab5 ab ab bc bc");
        Check.into(x, 0, 0, 3);
        x.breaks(4);
        Check.due("acts", 3, x.now(7));
        String ahead = Check.netOf(x);
        run.accept(x);
        Check.due("acts behind " + call, should ? 4 : 3, x.now(7));
        Check.due("undo() behind " + call, should ? 3 : 2, x.undo());
        Check.due("the net behind " + call + " and undo()", should, ahead.equals(Check.netOf(x)));
    }

    private static void undoCounts() {
        Check.says("27: put() that was 0, not of another answer", () -> {
            counts("put(1, 1)", true, x -> x.put(1, 1));
            counts("put(4, 1)", false, x -> x.put(4, 1));
            counts("put(0, 1)", false, x -> x.put(0, 1));
            counts("put(1, 0)", false, x -> x.put(1, 0));
            counts("put(5, 0)", false, x -> x.put(5, 0));
        });
        Check.says("27: breaks(), mend(), weigh() that was 0, not of another answer", () -> {
            counts("breaks(1)", true, x -> x.breaks(1));
            counts("breaks(4)", false, x -> x.breaks(4));
            counts("breaks(5)", false, x -> x.breaks(5));
            counts("mend(4)", true, x -> x.mend(4));
            counts("mend(0)", false, x -> x.mend(0));
            counts("mend(5)", false, x -> x.mend(5));
            counts("weigh(0, 7)", true, x -> x.weigh(0, 7));
            counts("weigh(0, 5)", false, x -> x.weigh(0, 5));
            counts("weigh(0, 0)", false, x -> x.weigh(0, 0));
        });
        Check.says("27: lift(), trade(), turn() that was not NONE", () -> {
            counts("lift(0)", true, x -> x.lift(0));
            counts("lift(1)", false, x -> x.lift(1));
            counts("turn(0)", true, x -> x.turn(0));
            counts("turn(5)", false, x -> x.turn(5));
            counts("trade(0, 1)", false, x -> x.trade(0, 1));
            ForestPacks x = pair();
            Check.act(x, "trade(0, 1)", 1, () -> x.trade(0, 1));
        });
        Check.says("27: place() above 0", () -> {
            counts("place(1)", true, x -> x.place(1));
            counts("place(4)", false, x -> x.place(4));
            ForestPacks x = pair();
            x.put(3, 0);
            Check.due("place(3)", 0, x.place(3));
            Check.due("acts", 3, x.now(7));
        });
        Check.says("27: pack(), ease(), drawn() above 0", () -> {
            counts("pack()", true, ForestPacks::pack);
            counts("ease()", true, ForestPacks::ease);
            counts("drawn(60, 1)", true, x -> x.drawn(60, 1));
            counts("drawn(61, 1)", false, x -> x.drawn(61, 1));
            ForestPacks x = pair();
            x.breaks(3);
            Check.idle(x, "pack()", 0, x::pack);
            x.ease();
            int acts = x.now(7);
            Check.due("ease()", 0, x.ease());
            Check.due("acts", acts, x.now(7));
        });
        Check.says("27: forests() of 0 or more, be it 0 or above", () -> {
            counts("forests(3)", true, x -> x.forests(3));
            counts("forests(1)", true, x -> x.forests(1));
            counts("forests(2)", false, x -> x.forests(2));
            counts("forests(6)", false, x -> x.forests(6));
        });
        Check.says("27: no other call", () -> {
            counts("chain(1)", false, x -> x.chain(1));
            counts("image(0)", false, x -> x.image(0));
            counts("feed()", false, x -> x.feed(0, 0, 0, 0, 0));
            counts("end(0)", false, x -> x.end(0));
            counts("game()", false, ForestPacks::game);
            counts("restore(0)", false, x -> x.restore(0));
            counts("all questions", false, ChangeTests::askAll);
        });
    }

    private static void askAll(ForestPacks x) {
        x.most(2);
        x.fewest();
        x.trees();
        x.thick(0);
        x.crowded(1);
        x.strength(0);
        x.even();
        x.rooted(0);
        x.outTree(0, 0);
        x.vital();
        x.layers();
        x.layerAt(0, 0);
        x.light(2, 0);
        x.load(0);
        x.ring(1, 0);
    }

    private static void undoLimits() {
        Check.says("27: 8 at most are kept: the oldest goes first", () -> {
            ForestPacks x = Check.net(2, 2, "ab1");
            for (int w = 2; w <= 10; w++) {
                x.weigh(0, w);
                Check.due("acts", Math.min(8, w - 1), x.now(7));
            }
            for (int left = 7; left >= 0; left--) {
                Check.due("undo()", left, x.undo());
            }
            Check.idle(x, "undo()", -1, x::undo);
            Check.due("weight", 2, x.line(0, 2));
        });
        Check.says("27: calls that do nothing take none of the 8", () -> {
            ForestPacks x = Check.net(1, 2, "ab1 ab1");
            Check.into(x, 0, 0);
            x.breaks(1);
            for (int w = 2; w <= 9; w++) {
                x.weigh(0, w);
            }
            x.pack();
            x.ease();
            x.drawn(1, seedFor(new int[] {6, 2}, 2, 1));
            x.place(1);
            x.put(1, 0);
            Check.due("acts", 8, x.now(7));
            for (int left = 7; left >= 0; left--) {
                x.pack();
                Check.due("undo()", left, x.undo());
                Check.due("weight", left + 1, x.line(0, 2));
            }
        });
        Check.says("27: many acts, and undone some of them, again and again", () -> {
            ForestPacks x = Check.net(2, 2, "ab1");
            int w = 1;
            for (int round = 0; round < 6; round++) {
                for (int i = 0; i < 10; i++) {
                    w++;
                    Check.due("weigh()", 0, x.weigh(0, w));
                }
                for (int i = 1; i <= 7; i++) {
                    Check.due("undo()", 8 - i, x.undo());
                    w--;
                    Check.due("weight", w, x.line(0, 2));
                }
            }
        });
    }

    private static int next(int seed) {
        return (int) (seed * 1103515245L + 12345L);
    }

    /** The first seed by which the first draws, of so many each, are as wanted. */
    private static int seedFor(int[] of, int... want) {
        for (int seed = 0; seed < 50_000_000; seed++) {
            int s = seed;
            boolean good = true;
            for (int i = 0; i < want.length && good; i++) {
                s = next(s);
                good = (s & 0xFFFFFFFFL) / 256 % of[i] == want[i];
            }
            if (good) {
                return seed;
            }
        }
        throw new IllegalStateException("no such seed");
    }

    private static void drawnLimits() {
        Check.says("41: n is 1 to 60; NONE: not as told", () -> {
            ForestPacks x = square();
            for (int n : new int[] {0, 61, -1}) {
                Check.idle(x, "drawn(" + n + ", 1)", -1, () -> x.drawn(n, 1));
            }
            for (int far : Check.FAR) {
                Check.idle(x, "drawn(" + far + ", 1)", -1, () -> x.drawn(far, 1));
            }
            Check.due("drawn(60, 1) is some", true, x.drawn(60, 1) > 0);
        });
        Check.says("41: no LINES: nothing is drawn", () -> {
            ForestPacks none = new ForestPacks();
            ForestPacks points = Check.net(5, 10, "");
            for (int n = 1; n <= 60; n++) {
                int many = n;
                Check.idle(none, "drawn() without points", 0, () -> none.drawn(many, 7));
                Check.idle(points, "drawn() with ten points", 0, () -> points.drawn(many, 7));
            }
        });
        Check.says("41: no LINES, and not as told: NONE", () -> {
            ForestPacks none = new ForestPacks();
            Check.idle(none, "drawn(0, 7)", -1, () -> none.drawn(0, 7));
            Check.idle(none, "drawn(61, 7)", -1, () -> none.drawn(61, 7));
        });
        Check.says("41: all DEEDS BROKEN LINES: the draws go on", () -> {
            ForestPacks x = Check.net(1, 2, "ab");
            x.breaks(0);
            int seed = seedFor(new int[] {6, 1, 6, 1}, 0, 0, 3, 0);
            Check.act(x, "drawn(2, " + seed + ")", 1, () -> x.drawn(2, seed));
            Check.due("mended", 0, x.line(0, 4));
        });
    }

    private static void draws() {
        Check.says("DRAWN: an int, wrapping, shifted without its sign: seeds of all kinds", () -> {
            int[] seeds = {0, 1, -1, Integer.MAX_VALUE, Integer.MIN_VALUE, 1 << 30, -(1 << 30), 123456789, -987654321};
            for (int seed : seeds) {
                ForestPacks x = Check.net(2, 2, "ab ".repeat(24));
                int kind = (int) ((next(seed) & 0xFFFFFFFFL) / 256 % 6);
                int l = (int) ((next(next(seed)) & 0xFFFFFFFFL) / 256 % 24);
                boolean done = kind != 2 && kind != 5;
                Check.due("drawn(1, " + seed + ")", Check.bit(done), x.drawn(1, seed));
                Check.due("the line " + l, done, x.line(l, 3) >= 0 || x.line(l, 4) == 1);
            }
        });
        Check.says("DRAWN: a draw of 6, a draw of LINES, and of K for 4 and 5 alone", () -> {
            for (int seed = -300; seed < 300; seed++) {
                ForestPacks x = Check.net(1 + (seed + 300) % 5, 3, "ab bc ac ab bc ac ab");
                x.pack();
                ForestPacks y = Check.net(1 + (seed + 300) % 5, 3, "ab bc ac ab bc ac ab");
                y.pack();
                int n = 1 + (seed + 300) % 60;
                int many = x.drawn(n, seed);
                Check.due("deeds by " + n + ", " + seed, byCalls(y, n, seed), many);
                Check.due("the net by " + n + ", " + seed, Check.netOf(y), Check.netOf(x));
                Check.due("acts by " + n + ", " + seed, 1 + Check.bit(many > 0), x.now(7));
            }
        });
    }

    /** The same deeds, call by call. */
    private static int byCalls(ForestPacks y, int n, int seed) {
        int done = 0;
        int s = seed;
        for (int i = 0; i < n; i++) {
            s = next(s);
            int kind = (s >>> 8) % 6;
            s = next(s);
            int l = (s >>> 8) % y.now(1);
            int f = 0;
            if (kind > 3) {
                s = next(s);
                f = (s >>> 8) % y.now(2);
            }
            boolean did;
            switch (kind) {
                case 0, 1 -> did = y.place(l) > 0;
                case 2 -> did = y.lift(l) >= 0;
                case 3 -> did = y.breaks(l) == 0 || y.mend(l) == 0;
                case 4 -> did = y.put(l, f) == 0;
                default -> did = y.trade(l, f) >= 0;
            }
            done += Check.bit(did);
        }
        return done;
    }

    private static void deed(ForestPacks x, int want, String homes, int[] of, int... draws) {
        int seed = seedFor(of, draws);
        if (want == 0) {
            Check.idle(x, "drawn(1, " + seed + ")", 0, () -> x.drawn(1, seed));
        } else {
            Check.act(x, "drawn(1, " + seed + ")", 1, () -> x.drawn(1, seed));
        }
        StringBuilder all = new StringBuilder();
        for (int l = 0; l < x.now(1); l++) {
            all.append(l == 0 ? "" : " ").append(x.line(l, 4) == 1 ? "x" : "" + x.line(l, 3));
        }
        Check.due("in forests behind drawn(1, " + seed + ")", homes, all.toString());
    }

    private static void deeds() {
        int[] of = {6, 4, 3};
        Check.says("DEED 0, 1: l is PLACED; a BLOCKED one is not, nor one that is BROKEN or lies in a FOREST", () -> {
            for (int kind = 0; kind < 2; kind++) {
                ForestPacks x = pair();
                x.lift(1);
                x.breaks(0);
                deed(x, 1, "x 0 2 -1", of, kind, 1);
                deed(x, 0, "x 0 2 -1", of, kind, 0);
                deed(x, 0, "x 0 2 -1", of, kind, 2);
                deed(x, 1, "x 0 2 1", of, kind, 3);
                ForestPacks y = pair();
                deed(y, 0, "0 1 2 -1", of, kind, 3);
                Check.due("crowd not told", 0, y.crowd());
                Check.due("chain not told", -1, x.chainAt(0, 0));
            }
        });
        Check.says("DEED 2: LIFTED, not if it lies in none", () -> {
            ForestPacks x = pair();
            deed(x, 1, "0 1 -1 -1", of, 2, 2);
            deed(x, 0, "0 1 -1 -1", of, 2, 2);
            deed(x, 0, "0 1 -1 -1", of, 2, 3);
            deed(x, 1, "-1 1 -1 -1", of, 2, 0);
        });
        Check.says("DEED 3: BROKEN, or MENDED", () -> {
            ForestPacks x = pair();
            deed(x, 1, "0 x 2 -1", of, 3, 1);
            deed(x, 1, "0 -1 2 -1", of, 3, 1);
            deed(x, 1, "0 -1 2 x", of, 3, 3);
        });
        Check.says("DEED 4: PUT there, if it can be", () -> {
            ForestPacks x = pair();
            x.lift(2);
            x.breaks(1);
            deed(x, 0, "0 x -1 -1", of, 4, 3, 0);
            deed(x, 1, "0 x -1 2", of, 4, 3, 2);
            deed(x, 0, "0 x -1 2", of, 4, 3, 1);
            deed(x, 0, "0 x -1 2", of, 4, 1, 1);
            deed(x, 1, "0 x 1 2", of, 4, 2, 1);
        });
        Check.says("DEED 5: TRADED with that, if it can be", () -> {
            ForestPacks x = pair();
            deed(x, 1, "2 1 0 -1", of, 5, 0, 2);
            deed(x, 0, "2 1 0 -1", of, 5, 0, 2);
            deed(x, 0, "2 1 0 -1", of, 5, 3, 0);
            x.lift(1);
            deed(x, 0, "2 -1 0 -1", of, 5, 0, 1);
        });
    }

    private static void deedsInRows() {
        Check.says("41: how many were done, of all; one act", () -> {
            ForestPacks x = pair();
            int seed = seedFor(new int[] {6, 4, 6, 4, 6, 4}, 2, 0, 2, 0, 2, 1);
            Check.act(x, "drawn(3, " + seed + ")", 2, () -> x.drawn(3, seed));
            Check.due("in forests", "-1 -1 2 -1", x.line(0, 3) + " " + x.line(1, 3) + " " + x.line(2, 3) + " " + x.line(3, 3));
        });
        Check.says("41: by each call from its seed on, not from that of the call ahead", () -> {
            ForestPacks x = pair();
            int lift = seedFor(new int[] {6, 4}, 2, 0);
            int lay = seedFor(new int[] {6, 4, 3}, 4, 0, 0);
            for (int i = 0; i < 5; i++) {
                Check.due("lifted", 1, x.drawn(1, lift));
                Check.due("put", 1, x.drawn(1, lay));
            }
        });
    }

    private static void image() {
        Check.says("42: NET, K, FORESTS, which LINES are BROKEN, how they are TURNED, WEIGHTS are kept", () -> {
            for (int k = 0; k < 2; k++) {
                ForestPacks x = Check.net(5, 4, "ab ac ad bc");
                Check.into(x, 4, 1);
                x.breaks(0);
                x.turn(2);
                x.weigh(3, 77);
                String kept = Check.netOf(x);
                Check.due("image()", true, x.image(k));
                Check.tell(x, "point z;");
                Check.due("restore()", true, x.restore(k));
                Check.due("all", kept, Check.netOf(x));
            }
        });
        Check.says("42: nothing else is changed", () -> {
            ForestPacks x = square();
            x.feed(1, 2, 3, 4, 5);
            Check.idle(x, "image(0)", true, () -> Check.bit(x.image(0)));
            Check.idle(x, "image(1)", true, () -> Check.bit(x.image(1)));
        });
        Check.says("42: what is kept does not go on with the NET", () -> {
            ForestPacks x = square();
            String kept = Check.netOf(x);
            x.image(0);
            x.drawn(60, 3);
            x.turn(0);
            x.restore(0);
            Check.due("all", kept, Check.netOf(x));
            x.breaks(0);
            x.restore(0);
            Check.due("all, again", kept, Check.netOf(x));
        });
        Check.says("42: the latest image() is in the place", () -> {
            ForestPacks x = Check.net(2, 2, "ab1");
            x.image(1);
            x.weigh(0, 2);
            x.image(1);
            x.weigh(0, 3);
            x.restore(1);
            Check.due("weight", 2, x.line(0, 2));
        });
        Check.says("42: two places, each with its own", () -> {
            ForestPacks x = Check.net(2, 2, "ab1");
            x.image(0);
            x.weigh(0, 2);
            x.image(1);
            x.restore(0);
            Check.due("weight", 1, x.line(0, 2));
            x.restore(1);
            Check.due("weight", 2, x.line(0, 2));
        });
        Check.says("42: false: no such one", () -> {
            ForestPacks x = square();
            Check.idle(x, "image(2)", false, () -> Check.bit(x.image(2)));
            Check.idle(x, "image(-1)", false, () -> Check.bit(x.image(-1)));
            for (int far : Check.FAR) {
                Check.idle(x, "image(" + far + ")", false, () -> Check.bit(x.image(far)));
            }
        });
        Check.says("42: of a NET without POINTS", () -> {
            ForestPacks x = new ForestPacks();
            x.forests(4);
            Check.due("image(0)", true, x.image(0));
            Check.tell(x, "point a;");
            Check.due("restore(0)", true, x.restore(0));
            Check.due("points, K", "0 4", x.now(0) + " " + x.now(2));
        });
    }

    private static void restore() {
        Check.says("43: false: nothing is kept there", () -> {
            ForestPacks x = square();
            Check.idle(x, "restore(0)", false, () -> Check.bit(x.restore(0)));
            Check.idle(x, "restore(1)", false, () -> Check.bit(x.restore(1)));
            x.image(0);
            Check.idle(x, "restore(1)", false, () -> Check.bit(x.restore(1)));
            ForestPacks y = square();
            y.image(1);
            Check.idle(y, "restore(0)", false, () -> Check.bit(y.restore(0)));
        });
        Check.says("43: false: no such one", () -> {
            ForestPacks x = square();
            x.image(0);
            x.image(1);
            Check.idle(x, "restore(2)", false, () -> Check.bit(x.restore(2)));
            Check.idle(x, "restore(-1)", false, () -> Check.bit(x.restore(-1)));
            for (int far : Check.FAR) {
                Check.idle(x, "restore(" + far + ")", false, () -> Check.bit(x.restore(far)));
            }
        });
        Check.says("43: nothing can be undone", () -> {
            ForestPacks x = square();
            x.image(0);
            x.turn(0);
            Check.due("restore(0)", true, x.restore(0));
            Check.due("acts", 0, x.now(7));
            Check.idle(x, "undo()", -1, x::undo);
        });
        Check.says("43: the tape, and what other calls told last, stays", () -> {
            ForestPacks x = square();
            x.image(0);
            x.place(4);
            x.lift(0);
            x.forests(1);
            x.chain(2);
            x.put(0, 0);
            x.chain(2);
            x.forests(2);
            Check.into(x, 1, 2, 3);
            played(x, 0);
            Check.tape(x, "?");
            x.net();
            x.feed(1, 2, 3, 4, 5);
            String told = Check.toldBy(x) + x.now(8);
            Check.due("fault", 1, x.fault());
            Check.due("restore(0)", true, x.restore(0));
            Check.due("told", told, Check.toldBy(x) + x.now(8));
        });
        Check.says("43: an image outlasts a new NET and a FAULT", () -> {
            ForestPacks x = square();
            x.image(0);
            Check.tape(x, "?");
            x.net();
            x.net();
            Check.due("restore(0)", true, x.restore(0));
            Check.due("lines", 5, x.now(1));
        });
    }
}
