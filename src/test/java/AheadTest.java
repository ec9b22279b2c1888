/** Promises 15 to 19, 32 and 33: ahead, next, meet, goes, empty, chance, tried. */
public final class AheadTest {
    private static final Checks CHECKS = new Checks();
    private static final String STOP = "soul a 0 5 3;soul b 0 9 2;soul c 1 7 0;bus r 2 3 1 2;bus s 4 4 2 0;"
        + "lets a b;seats 1;rain 100;";

    public static void main(String[] args) {
        ahead();
        asItGoes();
        next();
        meet();
        goes();
        empty();
        chance();
        tried();
        CHECKS.end("AheadTest");
    }

    private static void ahead() {
        HeavenStop x = Checks.told(STOP);
        CHECKS.due("gone in 0", x.ahead(0, 0, 0), 0);
        CHECKS.due("gone in 2", x.ahead(2, 0, 0), 0);
        CHECKS.due("gone in 3", x.ahead(3, 0, 0), 1);
        CHECKS.due("gone in 200", x.ahead(200, 0, 0), 3);
        CHECKS.due("kindness in 3", x.ahead(3, 1, 0), 9);
        CHECKS.due("kindness in 5", x.ahead(5, 1, 0), 21);
        CHECKS.due("passed in 3", x.ahead(3, 2, -5), 1);
        CHECKS.due("wet in 4", x.ahead(4, 3, 2), 3);
        CHECKS.due("waiting in 1", x.ahead(1, 4, 99), 2);
        CHECKS.due("waiting in 3", x.ahead(3, 4, 0), 2);
        CHECKS.due("nothing went by", x.count(4), 0);
        CHECKS.due("nobody is there", x.count(5), 0);
        x.go(3);
        CHECKS.due("gone then, those of before too", x.ahead(0, 0, 0), 1);
        CHECKS.due("kindness then", x.ahead(0, 1, 0), 9);
        CHECKS.due("passed more", x.ahead(0, 2, 0), 0);
        CHECKS.due("passed more", x.ahead(9, 2, 0), 0);
        CHECKS.due("wet then", x.ahead(1, 3, 2), 3);
        CHECKS.due("gone in 2", x.ahead(2, 0, 0), 3);
        CHECKS.due("n -1", x.ahead(-1, 0, 0), -1);
        CHECKS.due("n 201", x.ahead(201, 0, 0), -1);
        CHECKS.due("what 5", x.ahead(1, 5, 0), -1);
        CHECKS.due("what -1", x.ahead(1, -1, 0), -1);
        CHECKS.due("no such soul", x.ahead(1, 3, 3), -1);
        CHECKS.due("no such soul", x.ahead(1, 3, -1), -1);
    }

    private static void asItGoes() {
        String dull = "soul a 0 0 0;seats 0;seed 3;rain ";
        CHECKS.due("49: dry", Checks.told(dull + "49;").ahead(50, 3, 0), 0);
        CHECKS.due("50: wet", Checks.told(dull + "50;").ahead(50, 3, 0), 50);
        HeavenStop x = Checks.told(dull + "60;");
        HeavenStop y = Checks.told(dull + "60;");
        x.ahead(30, 3, 0);
        x.goes(0);
        x.empty();
        x.order(4);
        x.coins(0);
        x.chance(9, 9, 0, 1);
        x.tried(0, 0, 9);
        x.go(40);
        y.go(40);
        CHECKS.due("no number was drawn", Checks.soul(x, 0, 3), Checks.soul(y, 0, 3));
        // Each call goes as it goes, whatever the one ahead of it tried.
        x = Checks.told("soul a 0 0 0;soul b 0 0 0;bus k 2 20 1 9;lets a b;lets b a;seats 0;rain 60;law soak 2;");
        x.go(1);
        int wet = Checks.soul(x, 0, 3);
        CHECKS.due("wet as it goes behind go", x.ahead(5, 3, 0), wet + 10);
        x.chance(4, 9, 0, 1);
        CHECKS.due("wet as it goes behind chance", x.ahead(5, 3, 0), wet + 10);
        for (int what : new int[] {1, 3, 4, 5}) {
            x.tried(what, 0, 30);
            CHECKS.due("gone as it goes behind tried " + what, x.ahead(60, 0, 0), 0);
            CHECKS.due("trips behind tried " + what, x.trips(0), 0);
            x.tried(what, 0, 30);
            CHECKS.due("match behind tried " + what, x.match(0), -2);
        }
        x.give(0, 50);
        x.give(1, 50);
        x.off(1);
        x.everies(0);
        CHECKS.due("the bus's own every", x.goes(0), 2);
        x = Checks.told("soul a 3 0 9;bus k 2 20 1 9;");
        x.see(1, 0, false);
        x.everies(0);
        CHECKS.due("the bus's own every", x.goes(0), 23);
    }

    private static void next() {
        HeavenStop x = Checks.told("bus a 5 7 1 0;bus b 0 1 1 0;bus c 99 30 1 0;");
        int[] want = {5, 4, 3, 2, 1, 0, 6, 5, 4, 3, 2, 1, 0, 6};
        for (int i = 0; i < want.length; i++) {
            CHECKS.due("minute " + i, x.next(0), want[i]);
            CHECKS.due("every minute", x.next(1), 0);
            CHECKS.due("first at 99", x.next(2), 99 - i);
            x.go(1);
        }
        CHECKS.due("no such bus", x.next(3), -1);
        CHECKS.due("no such bus", x.next(-1), -1);
    }

    private static void meet() {
        HeavenStop x = Checks.told("bus a 2 3 1 0;bus b 4 4 1 0;bus c 3 2 1 0;bus d 98 29 1 0;");
        CHECKS.due("2 5 8, 4 8", x.meet(0, 1), 8);
        CHECKS.due("other way", x.meet(1, 0), 8);
        CHECKS.due("even and odd", x.meet(1, 2), -2);
        CHECKS.due("2 5, 3 5", x.meet(0, 2), 5);
        // 98 is 2 modulo 3.
        CHECKS.due("98", x.meet(0, 3), 98);
        x.go(8);
        CHECKS.due("in this one", x.meet(0, 1), 0);
        x.go(1);
        CHECKS.due("8 + 12", x.meet(0, 1), 11);
        x.go(90);
        // 98 + 29 is 127, which is 1 modulo 3; 156 is 0; 185 is 2.
        CHECKS.due("185", x.meet(0, 3), 86);
        CHECKS.due("alike", x.meet(1, 1), -1);
        CHECKS.due("no such bus", x.meet(0, 4), -1);
        CHECKS.due("no such bus", x.meet(4, 0), -1);
        CHECKS.due("no such bus", x.meet(-1, 0), -1);
        // Far apart: 30 and 29 meet once in 870 minutes.
        x = Checks.told("bus a 0 30 1 0;bus b 1 29 1 0;");
        CHECKS.due("30 * 1 is 1 + 29 * 1", x.meet(0, 1), 30);
        x.go(31);
        CHECKS.due("870 later", x.meet(0, 1), 869);
        x = Checks.told("bus a 1 29 1 0;bus b 0 30 1 0;");
        x.go(31);
        CHECKS.due("870 later", x.meet(0, 1), 869);
        x = Checks.told("bus a 0 30 1 0;bus b 1 15 1 0;");
        CHECKS.due("never", x.meet(0, 1), -2);
    }

    private static void goes() {
        HeavenStop x = Checks.told(STOP);
        CHECKS.due("a", x.goes(0), 5);
        CHECKS.due("b", x.goes(1), 3);
        CHECKS.due("c", x.goes(2), 5);
        x.go(2);
        CHECKS.due("this minute", x.goes(1), 1);
        x.go(1);
        CHECKS.due("is gone", x.goes(1), 0);
        CHECKS.due("no such soul", x.goes(3), -1);
        CHECKS.due("no such soul", x.goes(-1), -1);
        x.off(0);
        CHECKS.due("off", x.goes(0), -2);
        // One bus of room 1 every 30 minutes from 99 on: 99, 129, 159, 189, 219.
        x = Checks.told("soul a 0 0 0;soul b 0 0 0;soul c 0 0 0;soul d 0 0 0;soul e 0 0 0;bus k 99 30 1 0;");
        CHECKS.due("a", x.goes(0), 100);
        CHECKS.due("d", x.goes(3), 190);
        CHECKS.due("e: not by then", x.goes(4), -2);
        x.go(20);
        CHECKS.due("e: 200 is not by then", x.goes(4), -2);
        x.go(1);
        CHECKS.due("e", x.goes(4), 199);
    }

    private static void empty() {
        HeavenStop x = Checks.told(STOP);
        CHECKS.due("5", x.empty(), 5);
        x.go(5);
        CHECKS.due("so it is", x.empty(), 0);
        x = Checks.told("soul a 3 0 0;");
        CHECKS.due("never", x.empty(), -2);
        x.go(4);
        CHECKS.due("never", x.empty(), -2);
        x.off(0);
        CHECKS.due("walked off", x.empty(), 0);
        x = Checks.told("soul a 0 0 0;soul b 50 0 0;bus k 0 1 1 0;");
        x.go(10);
        CHECKS.due("one is still to come", x.empty(), 41);
        x = Checks.told("soul a 99 0 0;soul b 99 0 0;soul c 99 0 0;soul d 99 0 0;bus k 98 25 1 0;");
        // 123, 148, 173, 198
        CHECKS.due("199", x.empty(), 199);
        x = Checks.told("soul a 99 0 0;soul b 99 0 0;soul c 99 0 0;soul d 99 0 0;bus k 99 30 1 0;");
        // 99, 129, 159, 189
        CHECKS.due("190", x.empty(), 190);
        x = Checks.told("soul a 99 0 0;soul b 99 0 0;soul c 99 0 0;soul d 99 0 0;soul e 99 0 0;bus k 99 25 1 0;");
        // 99, 124, 149, 174, 199
        CHECKS.due("not by then", x.empty(), -2);
    }

    private static void chance() {
        HeavenStop x = Checks.told("soul a 0 0 0;soul b 0 0 0;soul c 40 0 0;seats 1;rain 40;seed 3;");
        x.go(1);
        int wet = Checks.soul(x, 1, 3);
        for (int seed : new int[] {0, 1, 12345, Integer.MAX_VALUE}) {
            for (int least : new int[] {0, 1, 3, 4, 5, 9, 999}) {
                CHECKS.due("seed " + seed + ", " + least, x.chance(seed, 9, 1, least), drawn(seed, 40, 9, wet, least));
            }
        }
        CHECKS.due("a sits", x.chance(7, 99, 0, 1), 0);
        CHECKS.due("0 is always so", x.chance(7, 1, 0, 0), 10);
        CHECKS.due("c isn't there yet", x.chance(7, 39, 2, 1), 0);
        CHECKS.due("nothing went by", x.count(4), 1);
        CHECKS.due("seed -1", x.chance(-1, 9, 1, 1), -1);
        CHECKS.due("n 0", x.chance(1, 0, 1, 1), -1);
        CHECKS.due("n 100", x.chance(1, 100, 1, 1), -1);
        CHECKS.due("no such soul", x.chance(1, 9, 3, 1), -1);
        CHECKS.due("no such soul", x.chance(1, 9, -1, 1), -1);
        CHECKS.due("wet -1", x.chance(1, 9, 1, -1), -1);
        CHECKS.due("wet 1000", x.chance(1, 9, 1, 1000), -1);
        x = Checks.told("soul a 0 0 0;seats 0;rain 100;");
        CHECKS.due("always rain", x.chance(5, 3, 0, 3), 10);
        CHECKS.due("always rain", x.chance(5, 3, 0, 4), 0);
        x = Checks.told("soul a 0 0 0;seats 0;");
        CHECKS.due("never rain", x.chance(5, 99, 0, 1), 0);
    }

    /** Ten times, the numbers one behind another, for one who stands in the rain all the time. */
    private static int drawn(long seed, int rain, int n, int wet, int least) {
        long last = seed;
        int many = 0;
        for (int i = 0; i < 10; i++) {
            int sum = wet;
            for (int j = 0; j < n; j++) {
                last = (last * 1103515245L + 12345L) & 0x7fffffffL;
                sum += (last / 65536) % 100 < rain ? 1 : 0;
            }
            many += sum >= least ? 1 : 0;
        }
        return many;
    }

    private static void tried() {
        HeavenStop x = Checks.told(STOP);
        CHECKS.due("as it goes", x.tried(0, 0, 3), 1);
        CHECKS.due("as it goes, 0 minutes", x.tried(0, 0, 0), 0);
        CHECKS.due("nobody lets", x.tried(1, 0, 3), 1);
        CHECKS.due("a isn't there", x.tried(2, 0, 5), 2);
        CHECKS.due("all may", x.tried(3, 0, 3), 1);
        CHECKS.due("room is 8", x.tried(4, 0, 3), 2);
        CHECKS.due("99 coins", x.tried(5, 0, 3), 1);
        x.go(3);
        CHECKS.due("more than now", x.tried(0, 0, 200), 2);
        CHECKS.due("b is gone: he stays gone", x.tried(2, 1, 200), 2);
        CHECKS.due("c isn't there", x.tried(2, 2, 200), 1);
        CHECKS.due("c still waits", Checks.soul(x, 2, 0), 1);
        CHECKS.due("what 6", x.tried(6, 0, 1), -1);
        CHECKS.due("what -1", x.tried(-1, 0, 1), -1);
        CHECKS.due("n -1", x.tried(0, 0, -1), -1);
        CHECKS.due("n 201", x.tried(0, 0, 201), -1);
        CHECKS.due("no such soul", x.tried(2, 3, 1), -1);
        CHECKS.due("no such soul", x.tried(2, -1, 1), -1);
        for (int what : new int[] {0, 1, 3, 4, 5}) {
            CHECKS.due("i 1 of " + what, x.tried(what, 1, 1), -1);
        }
        // Two who let one another: only without lets they go.
        x = Checks.told("soul a 0 0 0;soul b 0 0 0;bus k 1 1 1 0;lets a b;lets b a;");
        CHECKS.due("as it goes", x.tried(0, 0, 9), 0);
        CHECKS.due("nobody lets", x.tried(1, 0, 9), 2);
        CHECKS.due("a isn't there", x.tried(2, 0, 9), 1);
        // Poor ones, one of whom is still to come.
        x = Checks.told("soul a 0 0 1;soul b 5 0 1;bus k 1 1 1 9;");
        CHECKS.due("as it goes", x.tried(0, 0, 20), 0);
        CHECKS.due("all may", x.tried(3, 0, 20), 2);
        CHECKS.due("all may, coins are 0 at least", x.tried(3, 0, 3), 1);
        CHECKS.due("99 coins, of those to come too", x.tried(5, 0, 20), 2);
        CHECKS.due("room", x.tried(4, 0, 20), 0);
        CHECKS.due("b never comes", x.tried(2, 1, 20), 0);
        CHECKS.due("coins stay", Checks.soul(x, 0, 2), 1);
        CHECKS.due("as it goes again", x.tried(0, 0, 20), 0);
    }
}
