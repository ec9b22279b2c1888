/** Promises 20 to 26: order, trips, match, coins, rests, rest, dry. */
public final class BestTest {
    private static final Checks CHECKS = new Checks();

    public static void main(String[] args) {
        order();
        trips();
        match();
        coins();
        rests();
        dry();
        CHECKS.end("BestTest");
    }

    private static void orderIs(String what, HeavenStop x, int... want) {
        for (int i = 0; i < 5; i++) {
            CHECKS.due(what + ": order " + i, x.order(i), want[i]);
        }
    }

    private static void order() {
        HeavenStop x = Checks.told("soul a 0 1 0;soul b 0 7 0;soul c 0 5 0;soul d 0 9 0;soul e 0 8 0;bus k 3 99 2 0;"
            .replace("99", "30"));
        orderIs("nobody waits", x, -2, -2, -2, -2, 8);
        x.go(1);
        // Two get on: d and b of the first four, e is not among them.
        orderIs("four of five", x, 1, 3, 0, 2, 16);
        CHECKS.row("the queue stays", Checks.queue(x), 0, 1, 2, 3, 4);
        x.move(4, 0);
        orderIs("e, a, b, c are the first", x, 1, 4, 0, 2, 15);
        x.off(4);
        x.off(3);
        orderIs("a, b, c", x, 1, 2, 0, -2, 12);
        CHECKS.due("5", x.order(5), -1);
        CHECKS.due("-1", x.order(-1), -1);
        // Those who are gone already count, too.
        x = Checks.told("soul a 0 6 0;soul b 0 2 0;soul c 0 3 0;bus k 0 30 1 0;bus l 5 30 1 0;");
        x.go(1);
        orderIs("a is gone", x, 2, 1, -2, -2, 9);
        // 20 minutes from now and no more: the bus of minute 20 comes in the 21st.
        x = Checks.told("soul a 0 6 0;soul b 0 7 0;bus k 21 30 1 0;");
        x.go(1);
        orderIs("minute 21 is too late", x, 0, 1, -2, -2, 0);
        x.go(1);
        orderIs("minute 21 is the last", x, 1, 0, -2, -2, 7);
        // All rows alike: the first by souls, not as they stand.
        x = Checks.told("soul a 2 6 0;soul b 1 7 0;soul c 0 7 0;bus k 50 1 1 0;");
        x.go(3);
        CHECKS.row("c b a", Checks.queue(x), 2, 1, 0);
        orderIs("first by souls", x, 0, 1, 2, -2, 0);
    }

    private static void trips() {
        HeavenStop x = Checks.told("soul a 0 0 3;soul b 0 0 2;soul c 0 0 0;soul d 5 0 9;bus r 2 3 1 2;bus s 9 9 2 0;"
            + "bus t 9 9 8 50;lets a b;lets b a;");
        CHECKS.due("nobody waits", x.trips(0), 0);
        x.go(1);
        CHECKS.due("a and b", x.trips(0), 2);
        CHECKS.due("three by two", x.trips(1), 2);
        CHECKS.due("none may", x.trips(2), 0);
        x.give(2, 5);
        CHECKS.due("c as well", x.trips(0), 3);
        x.off(0);
        CHECKS.due("two by two", x.trips(1), 1);
        CHECKS.due("no such bus", x.trips(3), -1);
        CHECKS.due("no such bus", x.trips(-1), -1);
        x = Checks.told("soul a 0 5 0;soul b 0 6 0;soul c 0 7 0;bus r 9 3 1 2;law may kind>5;");
        x.go(1);
        CHECKS.due("by law", x.trips(0), 2);
        x = Checks.told("soul a 0 5 2;soul b 0 6 0;soul c 0 7 2;bus r 9 3 1 2;law may 1/0;");
        x.go(1);
        CHECKS.due("by coins with an error", x.trips(0), 2);
    }

    private static void matchIs(String what, HeavenStop x, int... want) {
        for (int i = 0; i < 5; i++) {
            CHECKS.due(what + ": match " + i, x.match(i), want[i]);
        }
    }

    private static void match() {
        HeavenStop x = Checks.told("soul a 0 5 3;soul b 0 9 2;soul c 0 7 0;bus r 9 3 1 2;bus s 9 4 2 0;");
        matchIs("nobody waits", x, -2, -2, -2, -2, 0);
        x.go(1);
        // b can go with r, c with s alone.
        matchIs("b and c", x, 1, 2, -2, -2, 16);
        x.give(2, 9);
        matchIs("first by buses", x, 1, 2, -2, -2, 16);
        x.off(1);
        matchIs("a and c", x, 0, 2, -2, -2, 12);
        x.off(2);
        matchIs("a goes with the first", x, 0, -2, -2, -2, 5);
        x.off(0);
        matchIs("nobody", x, -2, -2, -2, -2, 0);
        CHECKS.due("5", x.match(5), -1);
        CHECKS.due("-1", x.match(-1), -1);
        // None is last: one without kindness goes all the same.
        x = Checks.told("soul a 0 0 0;soul b 0 0 0;bus k 9 1 1 0;bus l 9 1 1 0;bus m 9 1 1 0;bus n 9 1 1 1;");
        x.go(1);
        matchIs("0 kindness", x, 0, 1, -2, -2, 0);
        // The first bus must leave the kinder one to the second.
        x = Checks.told("soul a 0 9 5;soul b 0 8 0;bus k 9 1 1 0;bus l 9 1 1 5;");
        x.go(1);
        matchIs("b with k, a with l", x, 1, 0, -2, -2, 17);
        // Four buses, eight souls.
        x = Checks.told("soul a 0 1 0;soul b 0 2 0;soul c 0 3 0;soul d 0 4 0;soul e 0 5 0;soul f 0 6 0;soul g 0 7 0;"
            + "soul h 0 8 9;bus k 9 1 1 0;bus l 9 1 1 9;bus m 9 1 1 0;bus n 9 1 1 0;");
        x.go(1);
        matchIs("h with l", x, 4, 7, 5, 6, 26);
    }

    private static void coins() {
        HeavenStop x = Checks.told("soul a 0 5 3;soul b 70 5 3;soul c 0 5 3;bus k 5 5 1 10;");
        // a goes first with 7 more; c with 7 more, as a never can.
        CHECKS.due("a", x.coins(0), 7);
        CHECKS.due("c", x.coins(2), 7);
        CHECKS.due("b comes too late", x.coins(1), -2);
        CHECKS.due("nothing was given", Checks.soul(x, 0, 2), 3);
        x.give(0, 7);
        CHECKS.due("0 now", x.coins(0), 0);
        x.go(6);
        CHECKS.due("a is gone", x.coins(0), 0);
        x.off(2);
        CHECKS.due("off", x.coins(2), -2);
        CHECKS.due("b by now", x.coins(1), -2);
        x.go(5);
        // Minute 11: 60 minutes are 11 .. 70, and a bus comes in minute 70.
        CHECKS.due("b by now", x.coins(1), 7);
        CHECKS.due("no such soul", x.coins(3), -1);
        CHECKS.due("no such soul", x.coins(-1), -1);
        x = Checks.told("soul a 0 5 3;bus k 59 5 1 99;");
        CHECKS.due("99 in all, in minute 59", x.coins(0), 96);
        x = Checks.told("soul a 0 5 3;bus k 60 5 1 9;");
        CHECKS.due("minute 60 is too late", x.coins(0), -2);
        // A law by which more coins are no better: only 42 do.
        x = Checks.told("soul a 0 5 3;bus k 1 1 1 9;law may coins=42;");
        CHECKS.due("39", x.coins(0), 39);
        x = Checks.told("soul a 0 5 3;bus k 1 1 1 9;law may coins>99;");
        CHECKS.due("99 at most", x.coins(0), -2);
    }

    private static void restsAre(String what, String souls, int... want) {
        HeavenStop x = Checks.told(souls);
        CHECKS.due(what + ": rests", x.rests(0, 1), want.length);
        for (int i = 0; i < want.length; i++) {
            CHECKS.due(what + ": rest " + i, x.rest(0, 1, i), want[i]);
        }
        CHECKS.due(what + ": no more", x.rest(0, 1, want.length), -2);
    }

    private static void rests() {
        restsAre("both would hold alone", "soul a 0 5 3;soul b 0 9 2;", 1, 10);
        // Both hold: a has 50 - 2 against 3, b has 40 - 3 against 2.
        restsAre("both hold", "soul a 0 3 50;soul b 0 2 40;", 11);
        // Nobody has anything: all are alike.
        restsAre("all", "soul a 0 0 0;soul b 0 0 0;", 0, 1, 10, 11);
        // a: 1 / 2 is 0; to hold alone gives 1. b: 0 always, but -1 if both hold.
        restsAre("cut", "soul a 0 1 0;soul b 0 0 0;", 1, 10);
        // a holds anyway; b has 1 against 2 - 1.
        restsAre("as much is no more", "soul a 0 1 9;soul b 0 1 2;", 10, 11);
        // Both yield only where nobody has anything.
        restsAre("both yield", "soul a 0 0 0;soul b 0 0 0;soul c 0 9 9;", 0, 1, 10, 11);
        restsAre("a has coins", "soul a 0 0 1;soul b 0 0 0;", 10, 11);
        restsAre("b has coins", "soul a 0 0 0;soul b 0 0 1;", 1, 11);
        restsAre("b holds anyway", "soul a 0 1 2;soul b 0 1 9;", 1, 11);
        restsAre("one yields to another", "soul a 0 2 0;soul b 0 99 99;", 1, 10);
        HeavenStop x = Checks.told("soul a 0 5 3;soul b 0 9 2;soul c 0 3 50;");
        CHECKS.due("c holds", x.rest(2, 0, 0), 10);
        CHECKS.due("other way round", x.rest(0, 2, 0), 1);
        CHECKS.due("alike", x.rests(1, 1), -1);
        CHECKS.due("no such soul", x.rests(0, 3), -1);
        CHECKS.due("no such soul", x.rests(-1, 0), -1);
        CHECKS.due("alike", x.rest(1, 1, 0), -1);
        CHECKS.due("no such soul", x.rest(3, 0, 0), -1);
        CHECKS.due("k -1", x.rest(0, 1, -1), -1);
        CHECKS.due("k far", x.rest(0, 1, Integer.MAX_VALUE), -2);
        x.give(1, 40);
        // b with 42 coins: 42 - 5 is more than 9.
        CHECKS.due("coins as now", x.rests(0, 1), 1);
        CHECKS.due("coins as now", x.rest(0, 1, 0), 1);
    }

    private static void dry() {
        HeavenStop x = Checks.told("rain 40;");
        long[] above = {1, 3, 9, 27, 81, 243, 729};
        long[] below = {1, 5, 25, 125, 625, 3125, 15625};
        for (int n = 0; n <= 6; n++) {
            CHECKS.due("40: " + n, x.dry(n, 0), above[n]);
            CHECKS.due("40: " + n, x.dry(n, 1), below[n]);
        }
        CHECKS.due("7", x.dry(7, 0), -1);
        CHECKS.due("-1", x.dry(-1, 0), -1);
        CHECKS.due("what 2", x.dry(1, 2), -1);
        CHECKS.due("what -1", x.dry(1, -1), -1);
        x = Checks.told("rain 99;");
        CHECKS.due("1 by 10 to the 12", x.dry(6, 0), 1);
        CHECKS.due("1 by 10 to the 12", x.dry(6, 1), 1000000000000L);
        x = Checks.told("rain 1;");
        CHECKS.due("99 to the 6", x.dry(6, 0), 941480149401L);
        x = Checks.told("rain 100;");
        CHECKS.due("0 by 1", x.dry(3, 0), 0);
        CHECKS.due("0 by 1", x.dry(3, 1), 1);
        CHECKS.due("1 by 1 for 0 minutes", x.dry(0, 0), 1);
        x = Checks.told("rain 0;");
        CHECKS.due("1 by 1", x.dry(6, 0), 1);
        CHECKS.due("1 by 1", x.dry(6, 1), 1);
    }
}
