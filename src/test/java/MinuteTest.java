/** Promises 6, 8 and 14: what a MINUTE does, and where everyone is. */
public final class MinuteTest {
    private static final Checks CHECKS = new Checks();

    public static void main(String[] args) {
        coming();
        boarding();
        lettingFirst();
        turns();
        mays();
        passing();
        severalBuses();
        rain();
        numbers();
        souls();
        going();
        CHECKS.end("MinuteTest");
    }

    private static void coming() {
        HeavenStop x = Checks.told("soul a 2 0 0;soul b 0 0 0;soul c 2 0 0;soul d 1 0 0;");
        CHECKS.row("nobody yet", Checks.queue(x));
        x.go(1);
        CHECKS.row("behind minute 0", Checks.queue(x), 1);
        x.go(1);
        CHECKS.row("behind minute 1", Checks.queue(x), 1, 3);
        x.go(1);
        CHECKS.row("behind minute 2", Checks.queue(x), 1, 3, 0, 2);
        CHECKS.due("nobody", x.queue(4), -2);
        CHECKS.due("nobody", x.queue(7), -2);
        CHECKS.due("no place", x.queue(8), -1);
        CHECKS.due("no place", x.queue(-1), -1);
        x.off(1);
        x.go(9);
        CHECKS.row("off stays off", Checks.queue(x), 3, 0, 2);
    }

    private static void boarding() {
        HeavenStop x = Checks.told("soul a 0 1 5;soul b 0 2 1;soul c 0 3 2;soul d 3 4 9;bus k 3 4 2 2;");
        x.go(3);
        CHECKS.row("before the bus", Checks.queue(x), 0, 1, 2);
        x.go(1);
        // b has too few coins; d came in the bus's minute, but there was no room.
        CHECKS.row("behind the bus", Checks.queue(x), 1, 3);
        CHECKS.due("a pays", Checks.soul(x, 0, 2), 3);
        CHECKS.due("c pays", Checks.soul(x, 2, 2), 0);
        CHECKS.due("a is gone", Checks.soul(x, 0, 0), 2);
        CHECKS.due("a's bus", Checks.soul(x, 0, 6), 0);
        CHECKS.due("a goes with c", Checks.soul(x, 0, 7), 5);
        CHECKS.due("c goes with a", Checks.soul(x, 2, 7), 5);
        CHECKS.due("b may not: not passed", Checks.soul(x, 1, 5), 0);
        CHECKS.due("d is passed", Checks.soul(x, 3, 5), 1);
        x.go(3);
        CHECKS.due("still there", Checks.soul(x, 3, 0), 1);
        x.go(1);
        CHECKS.due("d goes four minutes later", Checks.soul(x, 3, 0), 2);
        CHECKS.due("d goes alone", Checks.soul(x, 3, 7), 8);
        CHECKS.due("a still with c alone", Checks.soul(x, 0, 7), 5);
        CHECKS.row("b stays", Checks.queue(x), 1);
    }

    private static void lettingFirst() {
        HeavenStop x = Checks.told("soul a 0 0 5;soul b 0 0 5;soul c 0 0 5;bus k 1 1 1 0;lets a b;lets b c;");
        x.go(2);
        CHECKS.row("c first", Checks.queue(x), 0, 1);
        x.go(1);
        CHECKS.row("then b", Checks.queue(x), 0);
        x.go(1);
        CHECKS.row("then a", Checks.queue(x));
        // One who may not get on, or isn't there, isn't let.
        x = Checks.told("soul a 0 0 5;soul b 0 0 1;soul c 9 0 5;bus k 1 1 1 2;lets a b;lets a c;");
        x.go(2);
        CHECKS.row("a lets neither", Checks.queue(x), 1);
        // Within one bus: c gets on, then b lets nobody any more.
        x = Checks.told("soul a 0 0 5;soul b 0 0 5;soul c 0 0 5;bus k 1 1 2 0;lets a b;lets b c;");
        x.go(2);
        CHECKS.row("c and b", Checks.queue(x), 0);
        CHECKS.due("a is passed", Checks.soul(x, 0, 5), 1);
        // Two who let one another never go, and aren't passed while there is room.
        x = Checks.told("soul a 0 0 5;soul b 0 0 5;soul c 0 0 5;bus k 1 1 2 0;lets a b;lets b a;");
        x.go(5);
        CHECKS.row("a and b stay", Checks.queue(x), 0, 1);
        CHECKS.due("not passed", x.count(10), 0);
        x = Checks.told("soul a 0 0 5;soul b 0 0 5;soul c 0 0 5;bus k 1 20 1 0;lets a b;lets b a;");
        x.go(5);
        CHECKS.due("no more room: both are passed", x.count(10), 2);
    }

    private static void turns() {
        HeavenStop x = Checks.told("soul a 0 1 5;soul b 0 9 5;soul c 0 9 5;bus k 1 1 1 0;law turn 0-kind;");
        x.go(2);
        CHECKS.row("most kindness, least place", Checks.queue(x), 0, 2);
        // Cut to -9999 .. 9999: both are alike then, and the place counts.
        x = Checks.told("soul a 0 8 5;soul b 0 9 5;bus k 1 1 1 0;law turn 0-kind*9999;");
        x.go(2);
        CHECKS.row("cut below", Checks.queue(x), 1);
        x = Checks.told("soul a 0 9 5;soul b 0 8 5;bus k 1 1 1 0;law turn kind*9999;");
        x.go(2);
        CHECKS.row("cut above", Checks.queue(x), 1);
        x = Checks.told("soul a 0 1 5;soul b 0 0 5;bus k 1 1 1 0;law turn 9998+kind;");
        x.go(2);
        CHECKS.row("9999 is not cut", Checks.queue(x), 0);
        x = Checks.told("soul a 0 2 5;soul b 0 1 5;bus k 1 1 1 0;law turn 9998+kind;");
        x.go(2);
        CHECKS.row("10000 is cut", Checks.queue(x), 1);
        x = Checks.told("soul a 0 1 5;soul b 0 2 5;bus k 1 1 1 0;law turn 0-9998-kind;");
        x.go(2);
        CHECKS.row("-10000 is cut", Checks.queue(x), 1);
        x = Checks.told("soul a 0 0 5;soul b 0 1 5;bus k 1 1 1 0;law turn 0-9998-kind;");
        x.go(2);
        CHECKS.row("-9999 is not cut", Checks.queue(x), 0);
        x = Checks.told("soul a 0 0 5;soul b 0 9 5;bus k 1 1 1 0;law turn 9/kind;");
        x.go(2);
        CHECKS.row("an error is less than 1", Checks.queue(x), 1);
        // With an ERROR 0: of kind 0.
        x = Checks.told("soul a 0 1 5;soul b 0 0 5;bus k 1 1 1 0;law turn 5/kind;");
        x.go(2);
        CHECKS.row("an error is 0", Checks.queue(x), 0);
        // Ahead of anyone: places don't move while one bus is there.
        x = Checks.told("soul a 0 1 5;soul b 0 0 5;soul c 0 0 5;bus k 1 1 2 0;law turn (place=1)*5+(place=2)*3;");
        x.go(2);
        CHECKS.row("a, then c", Checks.queue(x), 1);
        // The fare is the bus's, the minute is this one.
        x = Checks.told("soul a 0 1 9;soul b 0 2 9;bus k 1 1 1 3;law turn kind*(3-fare)+place*(1-minute)+0-kind;");
        x.go(2);
        CHECKS.row("fare 3, minute 1", Checks.queue(x), 0);
    }

    private static void mays() {
        HeavenStop x = Checks.told("soul a 0 1 0;soul b 0 2 9;bus k 1 1 8 5;law may kind<2;");
        x.go(2);
        CHECKS.row("the law, not the coins", Checks.queue(x), 1);
        CHECKS.due("coins are 0 at least", Checks.soul(x, 0, 2), 0);
        x = Checks.told("soul a 0 1 4;soul b 0 2 5;bus k 1 1 8 5;law may 1/0;");
        x.go(2);
        CHECKS.row("with an error the coins", Checks.queue(x), 0);
        x = Checks.told("soul a 0 1 4;soul b 0 2 5;bus k 1 1 8 5;law may 0-kind+1;");
        x.go(2);
        CHECKS.row("what isn't 0", Checks.queue(x), 0);
        x = Checks.told("soul a 0 1 4;soul b 0 2 5;soul c 0 0 0;bus k 1 1 8 5;law may place>0;");
        x.go(2);
        CHECKS.row("places ahead of anyone", Checks.queue(x), 0);
        x = Checks.told("soul a 0 1 5;soul b 0 2 4;bus k 1 1 8 5;");
        x.go(2);
        CHECKS.row("no less than fare", Checks.queue(x), 1);
    }

    private static void passing() {
        HeavenStop x = Checks.told("soul a 0 1 9;soul b 0 2 9;soul c 0 0 0;bus k 1 1 1 5;bus l 1 1 1 9;");
        x.go(2);
        // a goes with k (b is passed), b with l.
        CHECKS.due("b was passed once", Checks.soul(x, 1, 5), 1);
        CHECKS.due("c never may", Checks.soul(x, 2, 5), 0);
        CHECKS.due("all", x.count(10), 1);
        x = Checks.told("soul a 0 1 9;soul b 0 2 9;bus k 1 1 2 5;");
        x.go(2);
        CHECKS.due("all are in", x.count(10), 0);
        x = Checks.told("soul a 0 1 9;soul b 0 2 9;soul c 0 3 9;bus k 0 1 1 5;bus l 0 1 1 5;");
        x.go(1);
        CHECKS.due("c was passed twice", Checks.soul(x, 2, 5), 2);
        CHECKS.due("a", Checks.soul(x, 0, 6), 0);
        CHECKS.due("b", Checks.soul(x, 1, 6), 1);
        CHECKS.due("not with one another", Checks.soul(x, 1, 7), 2);
    }

    private static void severalBuses() {
        HeavenStop x = Checks.told("soul a 0 1 9;soul b 0 2 9;soul c 0 3 9;bus k 0 7 1 5;bus l 7 1 2 0;");
        x.go(1);
        CHECKS.due("k took a", x.bus(0, 4), 1);
        x.go(6);
        CHECKS.due("l isn't there yet", x.count(6), 1);
        x.go(1);
        CHECKS.due("k by numbers first", x.bus(0, 4), 2);
        CHECKS.due("then l", x.bus(1, 4), 1);
        CHECKS.due("c paid nothing", Checks.soul(x, 2, 2), 9);
    }

    private static void rain() {
        HeavenStop x = Checks.told("soul a 0 0 0;soul b 0 0 0;soul c 0 0 0;soul d 3 0 0;rain 100;");
        x.go(3);
        int[] wet = {0, 0, 3, 0};
        for (int i = 0; i < 4; i++) {
            CHECKS.due("two seats without a line", Checks.soul(x, i, 3), wet[i]);
        }
        CHECKS.due("of all", x.count(9), 3);
        x = Checks.told("soul a 0 3 0;soul b 0 0 0;rain 100;seats 0;law soak kind*50-40;");
        x.go(10);
        CHECKS.due("soak is cut at 99, wet at 999", Checks.soul(x, 0, 3), 990);
        CHECKS.due("soak is cut at 0", Checks.soul(x, 1, 3), 0);
        x.go(1);
        CHECKS.due("999 at most", Checks.soul(x, 0, 3), 999);
        x.go(1);
        CHECKS.due("999 at most", Checks.soul(x, 0, 3), 999);
        x = Checks.told("soul a 0 0 0;soul b 0 2 0;rain 100;seats 0;law soak 7/kind;");
        x.go(1);
        CHECKS.due("with an error 1", Checks.soul(x, 0, 3), 1);
        CHECKS.due("7/2", Checks.soul(x, 1, 3), 3);
        // Rain comes behind the buses: who is gone stays dry.
        x = Checks.told("soul a 0 0 0;soul b 0 0 0;bus k 0 9 1 0;rain 100;seats 0;");
        x.go(1);
        CHECKS.due("a is gone", Checks.soul(x, 0, 3), 0);
        CHECKS.due("b stands", Checks.soul(x, 1, 3), 1);
        // Who moved up sits.
        x = Checks.told("soul a 0 0 0;soul b 0 0 0;bus k 1 9 1 0;rain 100;seats 1;");
        x.go(5);
        CHECKS.due("b sits from minute 1 on", Checks.soul(x, 1, 3), 1);
        x = Checks.told("soul a 0 0 0;rain 0;seats 0;");
        x.go(50);
        CHECKS.due("no rain", x.count(9), 0);
    }

    private static void numbers() {
        for (int seed : new int[] {0, 1, 42, 99999}) {
            for (int rain : new int[] {1, 30, 50, 99}) {
                HeavenStop x = Checks.told("soul a 0 0 0;seats 0;rain " + rain + ";seed " + seed + ";");
                long last = seed;
                int wet = 0;
                for (int i = 0; i < 60; i++) {
                    last = (last * 1103515245L + 12345L) & 0x7fffffffL;
                    wet += (last / 65536) % 100 < rain ? 1 : 0;
                    x.go(1);
                    CHECKS.due("seed " + seed + ", rain " + rain + ", minute " + i, Checks.soul(x, 0, 3), wet);
                }
            }
        }
        // The first number of seed 0 is 12345 by 65536, 0; of seed 1 it is 1103527590 by 65536, 16838.
        HeavenStop x = Checks.told("soul a 0 0 0;seats 0;rain 1;seed 0;");
        CHECKS.due("0 is below 1", x.go(1), 1);
        CHECKS.due("0 is below 1", Checks.soul(x, 0, 3), 1);
        x = Checks.told("soul a 0 0 0;seats 0;rain 38;seed 1;");
        x.go(1);
        CHECKS.due("38 is not below 38", Checks.soul(x, 0, 3), 0);
        x = Checks.told("soul a 0 0 0;seats 0;rain 39;seed 1;");
        x.go(1);
        CHECKS.due("38 is below 39", Checks.soul(x, 0, 3), 1);
        // A number is drawn when nobody stands there, too.
        x = Checks.told("soul a 1 0 0;seats 0;rain 1;seed 0;");
        x.go(2);
        CHECKS.due("the second number is not 0", Checks.soul(x, 0, 3), 0);
    }

    private static void souls() {
        HeavenStop x = Checks.told("soul a 5 50 60;soul b 0 0 0;");
        int[] notYet = {0, 50, 60, 0, -2, 0, -2, 0};
        for (int i = 0; i < 8; i++) {
            CHECKS.due("not there yet " + i, Checks.soul(x, 0, i), notYet[i]);
        }
        x.go(1);
        int[] waits = {1, 0, 0, 0, 0, 0, -2, 0};
        for (int i = 0; i < 8; i++) {
            CHECKS.due("waits " + i, Checks.soul(x, 1, i), waits[i]);
        }
        x.off(1);
        int[] off = {3, 0, 0, 0, -2, 0, -2, 0};
        for (int i = 0; i < 8; i++) {
            CHECKS.due("off " + i, Checks.soul(x, 1, i), off[i]);
        }
        CHECKS.due("no such soul", Checks.soul(x, 2, 0), Checks.IOOBE);
        CHECKS.due("no such soul", Checks.soul(x, -1, 0), Checks.IOOBE);
        CHECKS.due("no such soul", Checks.soul(x, Integer.MAX_VALUE, 9), Checks.IOOBE);
        CHECKS.due("no such what", Checks.soul(x, 0, 8), Checks.NSEE);
        CHECKS.due("no such what", Checks.soul(x, 1, -1), Checks.NSEE);
        CHECKS.due("none at all", Checks.soul(new HeavenStop(), 0, 0), Checks.IOOBE);
    }

    private static void going() {
        HeavenStop x = Checks.told("soul a 3 0 0;");
        CHECKS.due("0", x.go(0), 0);
        CHECKS.due("-1", x.go(-1), -1);
        CHECKS.due("201", x.go(201), -1);
        CHECKS.due("none went by", x.count(4), 0);
        for (int i = 1; i <= 48; i++) {
            CHECKS.due("200", x.go(200), 200 * i);
        }
        CHECKS.due("199", x.go(199), 9799);
        CHECKS.due("behind 9800", x.go(2), -1);
        CHECKS.due("none went by", x.count(4), 9799);
        CHECKS.due("9800", x.go(1), 9800);
        CHECKS.due("behind 9800", x.go(1), -1);
        CHECKS.due("behind 9800", x.go(200), -1);
        CHECKS.due("still 9800", x.go(0), 9800);
    }
}
