/**
 * Part 4 of the terms and promises 34 to 37: each sentence that names a bound has a method of its own,
 * which asks at the bound and on both sides of it.
 */
public final class CallEdgeTest {
    private static final Checks CHECKS = new Checks();
    private static final String EIGHT = "soul a 0 1 0;soul b 0 2 0;soul c 0 3 0;soul d 0 4 0;soul e 0 5 0;soul f 0 6 0;"
        + "soul g 0 7 0;soul h 0 8 0;";

    public static void main(String[] args) {
        undoTwentyAtMost();
        undoLatestFirst();
        undoAtTheEnds();
        undoIfNoMinuteWentBy();
        undoNone();
        keepInPlaceOfOneAhead();
        imageKeepsAll();
        imageLeavesTheSeen();
        backNothingToUndo();
        backNone();
        countEach();
        countEight();
        countNone();
        manyCalls();
        CHECKS.end("CallEdgeTest");
    }

    private static void undoTwentyAtMost() {
        CHECKS.says("can be undone, the latest first (20 at most)");
        for (int many = 0; many <= 43; many++) {
            HeavenStop x = Checks.told("soul a 9 0 0;");
            for (int i = 0; i < many; i++) {
                x.give(0, 2);
            }
            int undone = Math.min(many, 20);
            CHECKS.due(many + " done: can be undone", x.count(13), undone);
            for (int left = undone - 1; left >= 0; left--) {
                CHECKS.due(many + " done: undo", x.undo(), left);
            }
            CHECKS.due(many + " done: no more", x.undo(), -1);
            CHECKS.due(many + " done: coins", Checks.soul(x, 0, 2), 2 * (many - undone));
        }
        // Of all three kinds: the oldest is forgotten, whatever it was.
        HeavenStop x = Checks.told(EIGHT);
        x.go(1);
        x.off(0);
        x.move(7, 0);
        for (int i = 0; i < 19; i++) {
            x.give(1, 1);
        }
        CHECKS.due("21 done", x.count(13), 20);
        for (int i = 19; i >= 0; i--) {
            CHECKS.due("undo", x.undo(), i);
        }
        CHECKS.due("to walk off is forgotten", Checks.soul(x, 0, 0), 3);
        CHECKS.row("to move is undone", Checks.queue(x), 1, 2, 3, 4, 5, 6, 7);
        CHECKS.due("no more", x.undo(), -1);
        // Undone and done again: there is room again.
        for (int i = 0; i < 20; i++) {
            x.give(2, 1);
        }
        x.undo();
        x.give(2, 9);
        CHECKS.due("20 again", x.count(13), 20);
        x.undo();
        CHECKS.due("19", Checks.soul(x, 2, 2), 19);
    }

    private static void undoLatestFirst() {
        CHECKS.says("Moving, coins, walking off by call can be undone, the latest first");
        HeavenStop x = Checks.told(EIGHT);
        x.go(1);
        x.move(0, 3);
        x.give(0, 7);
        x.off(0);
        x.move(1, 6);
        x.off(7);
        x.off(1);
        CHECKS.row("c d e f g", Checks.queue(x), 2, 3, 4, 5, 6);
        CHECKS.due("b", x.undo(), 5);
        CHECKS.row("b is behind g", Checks.queue(x), 2, 3, 4, 5, 6, 1);
        CHECKS.due("h", x.undo(), 4);
        CHECKS.row("h is between g and b", Checks.queue(x), 2, 3, 4, 5, 6, 7, 1);
        CHECKS.due("b", x.undo(), 3);
        CHECKS.row("b is first", Checks.queue(x), 1, 2, 3, 4, 5, 6, 7);
        CHECKS.due("a is off", Checks.soul(x, 0, 0), 3);
        CHECKS.due("a", x.undo(), 2);
        CHECKS.due("a waits", Checks.soul(x, 0, 0), 1);
        CHECKS.row("a is at 3", Checks.queue(x), 1, 2, 3, 0, 4, 5, 6, 7);
        CHECKS.due("a has 7", Checks.soul(x, 0, 2), 7);
        CHECKS.due("coins", x.undo(), 1);
        CHECKS.due("a has none", Checks.soul(x, 0, 2), 0);
        CHECKS.due("a moves back", x.undo(), 0);
        CHECKS.row("as they came", Checks.queue(x), 0, 1, 2, 3, 4, 5, 6, 7);
    }

    private static void undoAtTheEnds() {
        CHECKS.says("undone: at the first and the last PLACE of a full QUEUE");
        HeavenStop x = Checks.told(EIGHT);
        x.go(1);
        int[][] moves = {{0, 7}, {7, 0}, {0, 1}, {7, 6}, {3, 4}, {4, 3}};
        for (int[] one : moves) {
            CHECKS.due("move", x.move(one[0], one[1]), true);
            CHECKS.due("undo", x.undo(), 0);
            CHECKS.row("as they came", Checks.queue(x), 0, 1, 2, 3, 4, 5, 6, 7);
        }
        for (int soul = 0; soul < 8; soul++) {
            CHECKS.due("off", x.off(soul), 7);
            CHECKS.due("undo", x.undo(), 0);
            CHECKS.row("as they came", Checks.queue(x), 0, 1, 2, 3, 4, 5, 6, 7);
        }
        for (int soul = 0; soul < 8; soul++) {
            x.off(soul);
        }
        CHECKS.due("nobody waits", x.count(5), 0);
        for (int left = 7; left >= 0; left--) {
            CHECKS.due("undo", x.undo(), left);
        }
        CHECKS.row("as they came", Checks.queue(x), 0, 1, 2, 3, 4, 5, 6, 7);
        // Coins that were cut at 99.
        x.give(7, 98);
        x.give(7, 99);
        x.give(7, 1);
        x.undo();
        CHECKS.due("99", Checks.soul(x, 7, 2), 99);
        x.undo();
        CHECKS.due("98", Checks.soul(x, 7, 2), 98);
        x.undo();
        CHECKS.due("0", Checks.soul(x, 7, 2), 0);
    }

    private static void undoIfNoMinuteWentBy() {
        CHECKS.says("if no MINUTE went by since");
        HeavenStop x = Checks.told(EIGHT);
        x.give(0, 5);
        x.go(0);
        CHECKS.due("go(0)", x.count(13), 1);
        x.go(-1);
        x.go(201);
        CHECKS.due("go refused", x.count(13), 1);
        x.ahead(200, 0, 0);
        x.tried(5, 0, 200);
        x.chance(1, 99, 0, 1);
        x.goes(0);
        x.order(4);
        x.everies(0);
        CHECKS.due("looked ahead", x.count(13), 1);
        x.keep();
        CHECKS.due("kept", x.count(13), 1);
        CHECKS.due("undo", x.undo(), 0);
        CHECKS.due("no coins", Checks.soul(x, 0, 2), 0);
        x.give(0, 5);
        x.go(1);
        CHECKS.due("go(1)", x.count(13), 0);
        CHECKS.due("undo", x.undo(), -1);
        CHECKS.due("coins stay", Checks.soul(x, 0, 2), 5);
        x.give(0, 5);
        CHECKS.due("done since", x.count(13), 1);
        CHECKS.due("undo", x.undo(), 0);
        CHECKS.due("coins of before stay", Checks.soul(x, 0, 2), 5);
        x.off(0);
        x.go(200);
        CHECKS.due("go(200)", x.undo(), -1);
        CHECKS.due("off stays", Checks.soul(x, 0, 0), 3);
    }

    private static void undoNone() {
        CHECKS.says("34: how many are left; NONE: none");
        HeavenStop x = new HeavenStop();
        CHECKS.due("new", x.undo(), -1);
        Checks.tell(x, EIGHT);
        CHECKS.due("told", x.undo(), -1);
        // What is refused is nothing to undo.
        x.give(0, 0);
        x.give(0, 100);
        x.give(8, 1);
        x.off(0);
        x.move(0, 1);
        CHECKS.due("refused", x.undo(), -1);
        x.go(1);
        x.move(0, 0);
        x.move(0, 8);
        x.off(8);
        x.off(-1);
        CHECKS.due("refused", x.undo(), -1);
        x.move(0, 1);
        CHECKS.due("one", x.undo(), 0);
        CHECKS.due("none", x.undo(), -1);
        CHECKS.due("none still", x.undo(), -1);
    }

    private static void keepInPlaceOfOneAhead() {
        CHECKS.says("35: An IMAGE is kept (in place of one ahead): which MINUTE it is");
        HeavenStop x = new HeavenStop();
        CHECKS.due("of a new one", x.keep(), 0);
        x.go(5);
        CHECKS.due("back to a new one", x.back(), 0);
        CHECKS.due("minute 0", x.count(4), 0);
        Checks.tell(x, EIGHT);
        CHECKS.due("0", x.keep(), 0);
        x.go(1);
        CHECKS.due("1", x.keep(), 1);
        x.go(7);
        CHECKS.due("back to 1, not to 0", x.back(), 1);
        CHECKS.due("all wait", x.count(5), 8);
        x.go(3);
        CHECKS.due("back to 1 again", x.back(), 1);
        x.go(200);
        CHECKS.due("201", x.keep(), 201);
        CHECKS.due("back to 201", x.back(), 201);
    }

    private static void imageKeepsAll() {
        CHECKS.says("An IMAGE keeps all; 36: All is as in the IMAGE");
        String text = "soul a 0 1 9;soul b 0 2 9;soul c 0 3 9;soul d 0 4 9;soul e 0 5 9;soul f 0 6 9;soul g 0 7 9;"
            + "soul h 30 8 9;bus k 1 9 2 3;bus l 1 9 1 1;rain 50;seats 1;seed 9;";
        HeavenStop x = Checks.told(text);
        x.go(3);
        x.off(5);
        x.give(6, 4);
        x.move(6, 0);
        x.keep();
        int[][] before = all(x);
        long[] queue = Checks.queue(x);
        int wetLater = wetBehind(x, 30);
        x.go(40);
        x.off(7);
        CHECKS.due("back", x.back(), 3);
        same("back", before, all(x));
        CHECKS.row("the queue", Checks.queue(x), queue);
        CHECKS.due("the numbers", wetBehind(x, 30), wetLater);
        CHECKS.due("back once more", x.back(), 3);
        same("back once more", before, all(x));
        // Looked ahead of it, nothing of it changes.
        x.order(4);
        x.tried(2, 6, 50);
        x.chance(3, 50, 6, 1);
        x.coins(6);
        x.back();
        same("behind looking ahead", before, all(x));
    }

    private static int wetBehind(HeavenStop x, int minutes) {
        x.go(minutes);
        int wet = x.count(9);
        x.back();
        return wet;
    }

    private static int[][] all(HeavenStop x) {
        int[][] all = new int[9][];
        for (int i = 0; i < 8; i++) {
            all[i] = new int[8];
            for (int what = 0; what < 8; what++) {
                all[i][what] = Checks.soul(x, i, what);
            }
        }
        all[8] = new int[11];
        for (int what = 0; what < 11; what++) {
            all[8][what] = x.count(what);
        }
        return all;
    }

    private static void same(String what, int[][] want, int[][] got) {
        for (int i = 0; i < want.length; i++) {
            for (int j = 0; j < want[i].length; j++) {
                CHECKS.due(what + ": " + i + " " + j, got[i][j], want[i][j]);
            }
        }
    }

    private static void imageLeavesTheSeen() {
        CHECKS.says("all but what was SEEN");
        HeavenStop x = Checks.told("soul a 0 1 9;bus k 1 9 2 3;");
        x.see(1, 0, false);
        x.keep();
        x.see(2, 0, true);
        x.see(2, 0, false);
        x.known(2);
        x.go(3);
        x.back();
        CHECKS.due("three are seen", x.count(11), 3);
        CHECKS.due("known by two", x.count(12), 2);
        CHECKS.due("everies", x.everies(0), (1 << 30) - 1);
        x.known(-1);
        CHECKS.due("everies by all", x.everies(0), 0);
        x.keep();
        x.strike(2);
        x.back();
        CHECKS.due("four", x.count(11), 4);
        CHECKS.due("struck still", x.everies(0), (1 << 30) - 1);
    }

    private static void backNothingToUndo() {
        CHECKS.says("36: (nothing to undo then)");
        HeavenStop x = Checks.told(EIGHT);
        x.go(1);
        x.give(0, 3);
        x.keep();
        CHECKS.due("one to undo", x.count(13), 1);
        x.give(0, 4);
        x.back();
        CHECKS.due("nothing to undo", x.count(13), 0);
        CHECKS.due("undo", x.undo(), -1);
        CHECKS.due("coins as in the image", Checks.soul(x, 0, 2), 3);
        x.give(0, 1);
        CHECKS.due("one to undo", x.undo(), 0);
        CHECKS.due("coins as in the image", Checks.soul(x, 0, 2), 3);
        // Undone behind the image: it is there again.
        x.give(1, 9);
        x.keep();
        x.undo();
        CHECKS.due("undone", Checks.soul(x, 1, 2), 0);
        x.back();
        CHECKS.due("there again", Checks.soul(x, 1, 2), 9);
        CHECKS.due("undo", x.undo(), -1);
    }

    private static void backNone() {
        CHECKS.says("36: NONE: there is none");
        HeavenStop x = new HeavenStop();
        CHECKS.due("new", x.back(), -1);
        Checks.tell(x, EIGHT);
        x.give(0, 1);
        x.go(0);
        CHECKS.due("none", x.back(), -1);
        CHECKS.due("refused: what can be undone stays", x.count(13), 1);
        x.go(4);
        CHECKS.due("none", x.back(), -1);
        CHECKS.due("refused: the minute stays", x.count(4), 4);
        x.keep();
        x.go(2);
        CHECKS.due("a text that is -2", x.text(1), -2);
        CHECKS.due("leaves it", x.back(), 4);
        CHECKS.due("a text with a fault", Checks.tell(x, "?"), -1);
        CHECKS.due("leaves it", x.back(), 4);
        CHECKS.due("a text", Checks.tell(x, EIGHT), 8);
        CHECKS.due("takes it", x.back(), -1);
        CHECKS.due("the minute stays", x.count(4), 0);
        x.keep();
        CHECKS.due("an empty text", x.text(0), 0);
        CHECKS.due("takes it, too", x.back(), -1);
    }

    private static void countEach() {
        CHECKS.says("37: each what at nothing and at more");
        HeavenStop x = new HeavenStop();
        int[] none = {0, 0, 2, 0, 0, 0, 0, 0, 0, 0, 0, 0, 0, 0};
        for (int i = 0; i < none.length; i++) {
            CHECKS.due("new: count " + i, x.count(i), none[i]);
        }
        Checks.tell(x, "soul a 0 7 5;soul b 0 3 5;soul c 0 2 5;soul d 0 2 5;soul e 9 1 1;bus k 0 30 1 1;bus l 9 1 1 0;"
            + "rain 100;seats 1;law turn place+0;");
        x.go(2);
        x.off(1);
        x.give(2, 1);
        x.move(3, 0);
        x.see(1, 0, true);
        x.see(2, 0, true);
        x.strike(0);
        x.known(2);
        // a is gone; of b, c, d two stood for two minutes each.
        int[] some = {5, 2, 1, 3, 2, 2, 1, 1, 7, 4, 3, 3, 2, 3};
        for (int i = 0; i < some.length; i++) {
            CHECKS.due("count " + i, x.count(i), some[i]);
        }
    }

    private static void countEight() {
        CHECKS.says("37: of eight SOULS, the last one as well");
        HeavenStop x = Checks.told(EIGHT + "bus a 1 30 1 0;bus b 1 30 1 0;bus c 1 30 1 0;bus d 1 30 1 0;"
            + "rain 100;seats 0;law turn 0-place;");
        CHECKS.due("souls", x.count(0), 8);
        CHECKS.due("buses", x.count(1), 4);
        x.go(1);
        CHECKS.due("all wait", x.count(5), 8);
        CHECKS.due("all are wet", x.count(9), 8);
        x.go(1);
        // h, g, f, e are gone; the first bus passed seven, the next ones six, five, four.
        CHECKS.due("four wait", x.count(5), 4);
        CHECKS.due("four are gone", x.count(6), 4);
        CHECKS.due("kindness", x.count(8), 26);
        CHECKS.due("wet", x.count(9), 12);
        CHECKS.due("passed", x.count(10), 22);
        x = Checks.told(EIGHT);
        x.go(1);
        for (int soul = 0; soul < 8; soul++) {
            x.off(soul);
            CHECKS.due("off", x.count(7), soul + 1);
        }
        CHECKS.due("can be undone", x.count(13), 8);
    }

    private static void countNone() {
        CHECKS.says("37: NONE for another what");
        HeavenStop x = new HeavenStop();
        CHECKS.range("new", 0, 13, -1, x::count);
        HeavenStop y = Checks.told(EIGHT);
        CHECKS.range("told", 0, 13, -1, y::count);
    }

    private static void manyCalls() {
        CHECKS.says("An object is used for at most 512 calls after it has been made");
        HeavenStop x = Checks.told(EIGHT + "bus k 1 3 1 0;rain 50;seats 0;");
        // Seven feeds, a text and a minute are nine; each round has twenty-five.
        x.go(1);
        int goes = x.goes(7);
        int everies = x.everies(0);
        int best = x.order(4);
        for (int round = 0; round < 20; round++) {
            x.give(7, 1);
            x.move(7, 0);
            CHECKS.due("the same everies", x.everies(0), everies);
            for (int i = 0; i < 10; i++) {
                x.coins(7);
                x.order(i % 5);
            }
            x.undo();
            x.undo();
        }
        CHECKS.due("the last calls: goes", x.goes(7), goes);
        CHECKS.due("the last calls: order", x.order(4), best);
        CHECKS.due("the last calls: coins", Checks.soul(x, 7, 2), 0);
    }
}
