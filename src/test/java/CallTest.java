/** Promises 11 to 13 and 34 to 37: move, give, off, undo, keep, back, count. */
public final class CallTest {
    private static final Checks CHECKS = new Checks();
    private static final String FOUR = "soul a 0 1 3;soul b 0 2 4;soul c 0 3 5;soul d 9 4 6;bus k 5 5 2 1;rain 100;seats 1;";

    public static void main(String[] args) {
        moving();
        giving();
        walkingOff();
        undoing();
        undoLimits();
        images();
        counting();
        CHECKS.end("CallTest");
    }

    private static void moving() {
        HeavenStop x = Checks.told(FOUR);
        CHECKS.due("nobody waits", x.move(0, 0), false);
        x.go(1);
        CHECKS.due("he is there", x.move(0, 0), false);
        CHECKS.due("too far behind", x.move(0, 3), false);
        CHECKS.due("below 0", x.move(0, -1), false);
        CHECKS.due("doesn't wait yet", x.move(3, 0), false);
        CHECKS.due("no such soul", x.move(4, 0), false);
        CHECKS.due("no such soul", x.move(-1, 0), false);
        CHECKS.due("no such place", x.move(0, Integer.MAX_VALUE), false);
        CHECKS.due("none was done", x.count(13), 0);
        CHECKS.due("a to the end", x.move(0, 2), true);
        CHECKS.row("b c a", Checks.queue(x), 1, 2, 0);
        CHECKS.due("a to the middle", x.move(0, 1), true);
        CHECKS.row("b a c", Checks.queue(x), 1, 0, 2);
        CHECKS.due("c first", x.move(2, 0), true);
        CHECKS.row("c b a", Checks.queue(x), 2, 1, 0);
        CHECKS.due("place", Checks.soul(x, 1, 4), 1);
        x.off(1);
        CHECKS.due("off", x.move(1, 0), false);
        x.go(5);
        CHECKS.due("gone", x.move(2, 0), false);
    }

    private static void giving() {
        HeavenStop x = Checks.told(FOUR);
        CHECKS.due("to one who isn't there yet", x.give(3, 4), 10);
        CHECKS.due("1", x.give(0, 1), 4);
        CHECKS.due("99 at most", x.give(0, 99), 99);
        CHECKS.due("99 still", x.give(0, 1), 99);
        CHECKS.due("soul", Checks.soul(x, 0, 2), 99);
        CHECKS.due("0", x.give(0, 0), -1);
        CHECKS.due("100", x.give(1, 100), -1);
        CHECKS.due("-1", x.give(1, -1), -1);
        CHECKS.due("no such soul", x.give(4, 1), -1);
        CHECKS.due("no such soul", x.give(-1, 1), -1);
        CHECKS.due("done four times", x.count(13), 4);
        x.go(6);
        CHECKS.due("gone", x.give(0, 1), -1);
        CHECKS.due("waits", x.give(2, 1), 6);
        x.off(2);
        CHECKS.due("off", x.give(2, 1), -1);
    }

    private static void walkingOff() {
        HeavenStop x = Checks.told(FOUR);
        CHECKS.due("isn't there yet", x.off(0), -1);
        x.go(1);
        CHECKS.due("b", x.off(1), 2);
        CHECKS.row("a c", Checks.queue(x), 0, 2);
        CHECKS.due("twice", x.off(1), -1);
        CHECKS.due("no such soul", x.off(4), -1);
        CHECKS.due("no such soul", x.off(-1), -1);
        CHECKS.due("a", x.off(0), 1);
        CHECKS.due("c", x.off(2), 0);
        x.go(9);
        CHECKS.due("d", x.count(5), 1);
        x.go(1);
        CHECKS.due("gone", x.off(3), -1);
    }

    private static void undoing() {
        HeavenStop x = Checks.told(FOUR);
        x.go(2);
        x.move(2, 0);
        x.give(1, 40);
        x.off(0);
        x.move(1, 0);
        x.off(1);
        CHECKS.row("c", Checks.queue(x), 2);
        CHECKS.due("five", x.count(13), 5);
        CHECKS.due("b is back", x.undo(), 4);
        CHECKS.row("b c", Checks.queue(x), 1, 2);
        CHECKS.due("b waits", Checks.soul(x, 1, 0), 1);
        CHECKS.due("c first", x.undo(), 3);
        CHECKS.row("c b", Checks.queue(x), 2, 1);
        CHECKS.due("a is back", x.undo(), 2);
        CHECKS.row("c a b", Checks.queue(x), 2, 0, 1);
        CHECKS.due("coins are back", x.undo(), 1);
        CHECKS.due("b's coins", Checks.soul(x, 1, 2), 4);
        CHECKS.due("all is as it was", x.undo(), 0);
        CHECKS.row("a b c", Checks.queue(x), 0, 1, 2);
        CHECKS.due("none", x.undo(), -1);
        CHECKS.due("wet stays", Checks.soul(x, 2, 3), 2);
    }

    private static void undoLimits() {
        HeavenStop x = Checks.told(FOUR);
        for (int i = 1; i <= 25; i++) {
            CHECKS.due("give " + i, x.give(0, 1), 3 + i);
            CHECKS.due("can be undone", x.count(13), Math.min(i, 20));
        }
        for (int i = 19; i >= 0; i--) {
            CHECKS.due("undo", x.undo(), i);
        }
        CHECKS.due("none", x.undo(), -1);
        CHECKS.due("the first five stay", Checks.soul(x, 0, 2), 8);
        oldestIsForgotten();
        x.give(0, 1);
        x.go(0);
        x.go(-1);
        CHECKS.due("no minute went by", x.count(13), 1);
        x.go(1);
        CHECKS.due("one went by", x.count(13), 0);
        CHECKS.due("none", x.undo(), -1);
        CHECKS.due("coins stay", Checks.soul(x, 0, 2), 9);
        x.give(0, 90);
        x.give(0, 5);
        CHECKS.due("undone from 99", x.undo(), 1);
        CHECKS.due("99", Checks.soul(x, 0, 2), 99);
        CHECKS.due("undone", x.undo(), 0);
        CHECKS.due("9", Checks.soul(x, 0, 2), 9);
    }

    private static void oldestIsForgotten() {
        HeavenStop x = Checks.told(FOUR);
        x.go(1);
        x.give(0, 1);
        for (int i = 0; i < 9; i++) {
            x.move(1, i % 2 == 0 ? 0 : 1);
            x.give(2, 1);
        }
        x.off(0);
        x.give(1, 1);
        // 21 of them: the first one is forgotten.
        CHECKS.due("20", x.count(13), 20);
        for (int i = 19; i >= 0; i--) {
            CHECKS.due("undo", x.undo(), i);
        }
        CHECKS.row("a b c", Checks.queue(x), 0, 1, 2);
        CHECKS.due("a keeps the first one", Checks.soul(x, 0, 2), 4);
        CHECKS.due("b", Checks.soul(x, 1, 2), 4);
        CHECKS.due("c", Checks.soul(x, 2, 2), 5);
    }

    private static void images() {
        HeavenStop x = Checks.told(FOUR + "seed 5;");
        CHECKS.due("none", x.back(), -1);
        x.go(2);
        x.move(2, 0);
        CHECKS.due("kept", x.keep(), 2);
        CHECKS.due("what can be undone stays", x.count(13), 1);
        x.give(2, 9);
        x.see(3, 0, true);
        x.see(4, 0, true);
        x.known(1);
        x.go(20);
        x.give(1, 1);
        CHECKS.due("back", x.back(), 2);
        CHECKS.row("c a b", Checks.queue(x), 2, 0, 1);
        CHECKS.due("nobody is gone", x.count(6), 0);
        CHECKS.due("coins", Checks.soul(x, 2, 2), 5);
        CHECKS.due("passed", x.count(10), 0);
        CHECKS.due("wet", x.count(9), 4);
        CHECKS.due("nothing to undo", x.undo(), -1);
        CHECKS.due("seen stays", x.count(11), 2);
        CHECKS.due("known stays", x.count(12), 1);
        x.go(7);
        CHECKS.due("back again", x.back(), 2);
        x.go(1);
        CHECKS.due("in place of one ahead", x.keep(), 3);
        x.off(0);
        CHECKS.due("back", x.back(), 3);
        CHECKS.due("waits", Checks.soul(x, 0, 0), 1);
        Checks.tell(x, "soul A");
        CHECKS.due("a fault leaves it", x.back(), 3);
        Checks.tell(x, "soul a 0 0 0;");
        CHECKS.due("a text takes it", x.back(), -1);
        imageKeepsNumbers();
        imageKeepsTheGone();
    }

    private static void imageKeepsTheGone() {
        HeavenStop x = Checks.told("soul a 0 0 0;soul b 0 0 0;soul c 0 0 0;soul d 0 0 0;bus k 9 9 1 0;bus l 2 2 2 0;");
        x.go(3);
        x.keep();
        CHECKS.due("a went with b", Checks.soul(x, 0, 7), 3);
        CHECKS.due("bus l", Checks.soul(x, 0, 6), 1);
        x.give(2, 7);
        x.give(2, 8);
        CHECKS.due("back", x.back(), 3);
        CHECKS.due("nothing to undo", x.undo(), -1);
        CHECKS.due("coins", Checks.soul(x, 2, 2), 0);
        x.go(9);
        CHECKS.due("c went with d", Checks.soul(x, 2, 7), 12);
        x.back();
        CHECKS.due("c is here again", Checks.soul(x, 2, 7), 0);
        CHECKS.due("a went with b still", Checks.soul(x, 0, 7), 3);
        CHECKS.due("passed", Checks.soul(x, 2, 5), 1);
    }

    private static void imageKeepsNumbers() {
        HeavenStop x = Checks.told("soul a 0 0 0;seats 0;rain 50;seed 77;");
        x.go(5);
        x.keep();
        x.go(30);
        int wet = Checks.soul(x, 0, 3);
        x.back();
        x.go(3);
        x.go(27);
        CHECKS.due("the same rain", Checks.soul(x, 0, 3), wet);
        CHECKS.due("some rain", wet > 2 && wet < 34, true);
    }

    private static void counting() {
        HeavenStop x = Checks.told(FOUR + "law turn 1+2;");
        x.go(1);
        x.off(1);
        x.go(5);
        x.see(1, 0, false);
        x.see(2, 0, false);
        x.strike(0);
        x.known(2);
        x.give(3, 1);
        // a and c went with the bus of minute 5; b stood two minutes... in minute 0 b and c stood in the rain.
        int[] want = {4, 1, 1, 3, 6, 0, 2, 1, 4, 6, 0, 3, 2, 1};
        want[9] = Checks.soul(x, 1, 3) + Checks.soul(x, 2, 3);
        for (int i = 0; i < want.length; i++) {
            CHECKS.due("count " + i, x.count(i), want[i]);
        }
        CHECKS.due("b's wet", Checks.soul(x, 1, 3), 1);
        CHECKS.due("c's wet", Checks.soul(x, 2, 3), 5);
        x.known(-1);
        CHECKS.due("by all", x.count(12), 3);
        CHECKS.due("none", x.count(14), -1);
        CHECKS.due("none", x.count(-1), -1);
        CHECKS.due("none", x.count(Integer.MIN_VALUE), -1);
    }
}
