import java.math.BigInteger;

/**
 * Part 3 of the terms but for what was SEEN, and promises 15 to 26, 32, 33: each sentence that names a
 * bound has a method of its own, which asks at the bound and on both sides of it.
 */
public final class AheadEdgeTest {
    private static final Checks CHECKS = new Checks();
    private static final String FOUR_BUSES = "bus a 9 1 1 0;bus b 9 2 1 0;bus c 9 3 1 0;bus d 9 4 1 0;";

    public static void main(String[] args) {
        aheadMinutes();
        aheadThen();
        aheadNone();
        nextBuses();
        nextNone();
        meetFirst();
        meetFarthest();
        meetNone();
        goesAtMost();
        goesThisOne();
        goesNone();
        emptyAtMost();
        emptySoItIs();
        orderOfFour();
        orderMinutes();
        orderFirstBySouls();
        orderNone();
        tripsByRoom();
        tripsNow();
        tripsNone();
        matchNoneIsLast();
        matchFirstByBuses();
        matchMayNow();
        matchNone();
        coinsFewest();
        coinsAtMost();
        coinsMinutes();
        coinsNone();
        restsNeitherMore();
        restsNone();
        dryTerms();
        dryNone();
        chanceAtLeast();
        chanceDrawn();
        chanceNone();
        triedMinutes();
        triedLets();
        triedNotThere();
        triedMay();
        triedRoom();
        triedCoins();
        triedNone();
        CHECKS.end("AheadEdgeTest");
    }

    private static String souls(int many, String numbers) {
        StringBuilder all = new StringBuilder();
        for (int i = 0; i < many; i++) {
            all.append("soul ").append((char) ('a' + i)).append(' ').append(numbers).append(';');
        }
        return all.toString();
    }

    private static void orderIs(String what, HeavenStop x, int... want) {
        for (int i = 0; i < 5; i++) {
            CHECKS.due(what + ": order " + i, x.order(i), want[i]);
        }
    }

    private static void matchIs(String what, HeavenStop x, int... want) {
        for (int i = 0; i < 5; i++) {
            CHECKS.due(what + ": match " + i, x.match(i), want[i]);
        }
    }

    // ---- promises 15 to 19 ----

    private static void aheadMinutes() {
        CHECKS.says("15: AHEAD (n 0 .. 200)");
        // Buses in 99, 124, 149, 174, 199, 224.
        HeavenStop x = Checks.told(souls(8, "0 3 0") + "bus k 99 25 1 0;rain 100;seats 0;");
        for (int what = 0; what < 5; what++) {
            int asked = what;
            CHECKS.range("n of " + what, 0, 200, -1, n -> x.ahead(n, asked, 7));
        }
        CHECKS.due("99", x.ahead(99, 0, 0), 0);
        CHECKS.due("100", x.ahead(100, 0, 0), 1);
        CHECKS.due("199", x.ahead(199, 0, 0), 4);
        CHECKS.due("200", x.ahead(200, 0, 0), 5);
        CHECKS.due("wet of the last one", x.ahead(200, 3, 7), 200);
        CHECKS.due("no minute went by", x.count(4), 0);
    }

    private static void aheadThen() {
        CHECKS.says("how many are GONE then, KINDNESS of them in sum, PASSED more of all, how WET, how many WAIT then");
        HeavenStop x = Checks.told("soul a 0 5 0;soul b 0 6 0;soul c 0 7 0;soul d 4 8 0;bus k 2 2 1 0;rain 100;seats 1;");
        // a goes in 2, b in 4, c in 6, d in 8.
        int[] gone = {0, 0, 0, 1, 1, 2, 2, 3, 3, 4, 4};
        int[] kindness = {0, 0, 0, 5, 5, 11, 11, 18, 18, 26, 26};
        int[] passed = {0, 0, 0, 2, 2, 4, 4, 5, 5, 5, 5};
        // c stands at place 2, from 2 on at 1, from 4 on at 0.
        int[] wet = {0, 1, 2, 3, 4, 4, 4, 4, 4, 4, 4};
        int[] wait = {0, 3, 3, 2, 2, 2, 2, 1, 1, 0, 0};
        for (int n = 0; n <= 10; n++) {
            CHECKS.due("gone in " + n, x.ahead(n, 0, -1), gone[n]);
            CHECKS.due("kindness in " + n, x.ahead(n, 1, 99), kindness[n]);
            CHECKS.due("passed in " + n, x.ahead(n, 2, Integer.MIN_VALUE), passed[n]);
            CHECKS.due("wet in " + n, x.ahead(n, 3, 2), wet[n]);
            CHECKS.due("wait in " + n, x.ahead(n, 4, Integer.MAX_VALUE), wait[n]);
        }
        // Behind three minutes: those of before are gone and wet still; passed is what is more.
        x.go(3);
        for (int n = 0; n <= 7; n++) {
            CHECKS.due("gone in " + n, x.ahead(n, 0, 0), gone[n + 3]);
            CHECKS.due("kindness in " + n, x.ahead(n, 1, 0), kindness[n + 3]);
            CHECKS.due("passed in " + n, x.ahead(n, 2, 0), passed[n + 3] - 2);
            CHECKS.due("wet in " + n, x.ahead(n, 3, 2), wet[n + 3]);
            CHECKS.due("wait in " + n, x.ahead(n, 4, 0), wait[n + 3]);
        }
    }

    private static void aheadNone() {
        CHECKS.says("15: (of all but 3 the SOUL isn't looked at). NONE: no such ones");
        HeavenStop x = Checks.told(souls(8, "0 0 0"));
        CHECKS.range("what", 0, 4, -1, what -> x.ahead(1, what, 0));
        CHECKS.range("soul", 0, 7, -1, soul -> x.ahead(1, 3, soul));
        for (int what : new int[] {0, 1, 2, 4}) {
            for (int soul : new int[] {Integer.MIN_VALUE, -1, 8, Integer.MAX_VALUE}) {
                CHECKS.due("soul " + soul + " isn't looked at", x.ahead(1, what, soul), what == 4 ? 8 : 0);
            }
        }
        HeavenStop y = new HeavenStop();
        CHECKS.due("nobody is wet", y.ahead(1, 3, 0), -1);
        CHECKS.due("nobody is gone", y.ahead(1, 0, 0), 0);
    }

    private static void nextBuses() {
        CHECKS.says("NEXT of a BUS: in how many MINUTES it comes (0: in this one)");
        HeavenStop x = Checks.told("bus a 5 7 1 0;bus b 0 1 1 0;bus c 99 30 1 0;bus d 0 30 1 0;");
        int[] a = {5, 4, 3, 2, 1, 0, 6, 5, 4, 3, 2, 1, 0, 6};
        for (int minute = 0; minute < 132; minute++) {
            if (minute < a.length) {
                CHECKS.due("a at " + minute, x.next(0), a[minute]);
            }
            CHECKS.due("b at " + minute, x.next(1), 0);
            CHECKS.due("c at " + minute, x.next(2), minute <= 99 ? 99 - minute : minute <= 129 ? 129 - minute : 159 - minute);
            CHECKS.due("d at " + minute, x.next(3), (30 - minute % 30) % 30);
            x.go(1);
        }
    }

    private static void nextNone() {
        CHECKS.says("16: NONE: no such BUS");
        HeavenStop x = Checks.told(FOUR_BUSES);
        CHECKS.range("next", 0, 3, -1, x::next);
        CHECKS.due("no second one", Checks.told("bus a 9 1 1 0;").next(1), -1);
    }

    private static void meetFirst() {
        CHECKS.says("MEET of two BUSES: in how many MINUTES both come at once the first time (0: in this one); -2: never");
        HeavenStop x = Checks.told("bus a 2 3 1 0;bus b 4 4 1 0;bus c 3 2 1 0;");
        int[] ab = {8, 7, 6, 5, 4, 3, 2, 1, 0, 11, 10, 9, 8, 7, 6, 5, 4, 3, 2, 1, 0, 11};
        int[] ac = {5, 4, 3, 2, 1, 0, 5, 4, 3, 2, 1, 0, 5};
        for (int minute = 0; minute < ab.length; minute++) {
            CHECKS.due("a and b at " + minute, x.meet(0, 1), ab[minute]);
            CHECKS.due("b and a at " + minute, x.meet(1, 0), ab[minute]);
            if (minute < ac.length) {
                CHECKS.due("a and c at " + minute, x.meet(0, 2), ac[minute]);
            }
            CHECKS.due("b and c at " + minute, x.meet(1, 2), -2);
            x.go(1);
        }
        // One is there long ahead of the other: its minutes alone are no meeting.
        x = Checks.told("bus a 0 1 1 0;bus b 99 30 1 0;bus c 99 1 1 0;");
        CHECKS.due("the first of b", x.meet(0, 1), 99);
        CHECKS.due("the first of b", x.meet(1, 0), 99);
        CHECKS.due("the first of both", x.meet(1, 2), 99);
        x.go(99);
        CHECKS.due("in this one", x.meet(0, 1), 0);
        x.go(1);
        CHECKS.due("29 later", x.meet(0, 1), 29);
    }

    private static void meetFarthest() {
        CHECKS.says("MEET, for all pairs of a far one and one of 29 or 30 MINUTES: by counting; -2: never");
        for (int every : new int[] {1, 2, 6, 7, 15, 28, 29, 30}) {
            for (int first : new int[] {0, 1, 29, 98, 99}) {
                for (int other : new int[] {29, 30}) {
                    HeavenStop x = Checks.told("bus a " + first + " " + every + " 1 0;bus b 1 " + other + " 1 0;");
                    for (int now : new int[] {0, 1, 2, 100}) {
                        x.go(now - x.count(4));
                        int want = counted(now, first, every, 1, other);
                        CHECKS.due(first + " " + every + ", 1 " + other + " at " + now, x.meet(0, 1), want);
                        CHECKS.due("1 " + other + ", " + first + " " + every + " at " + now, x.meet(1, 0), want);
                    }
                }
            }
        }
    }

    private static int counted(int now, int first, int every, int other, int otherEvery) {
        for (int minute = now; minute < now + 3000; minute++) {
            boolean one = minute >= first && (minute - first) % every == 0;
            boolean two = minute >= other && (minute - other) % otherEvery == 0;
            if (one && two) {
                return minute - now;
            }
        }
        return -2;
    }

    private static void meetNone() {
        CHECKS.says("17: NONE: no such BUSES, alike");
        HeavenStop x = Checks.told(FOUR_BUSES);
        CHECKS.range("one", 0, 2, -1, one -> x.meet(one, 3));
        CHECKS.range("other", 1, 3, -1, other -> x.meet(0, other));
        CHECKS.due("one is -1", x.meet(-1, 0), -1);
        CHECKS.due("one is 4", x.meet(4, 0), -1);
        CHECKS.due("other is -1", x.meet(0, -1), -1);
        CHECKS.due("other is 4", x.meet(3, 4), -1);
        for (int bus = 0; bus < 4; bus++) {
            CHECKS.due("alike " + bus, x.meet(bus, bus), -1);
        }
        CHECKS.due("alike and none", x.meet(4, 4), -1);
        CHECKS.due("in nine minutes", x.meet(2, 3), 9);
    }

    private static void goesAtMost() {
        CHECKS.says("GOES of a SOUL: in how many MINUTES as it goes, 199 at most; -2: not by then");
        // The fifth one goes in minute 197, 198, 199.
        String five = souls(5, "0 0 0");
        CHECKS.due("198", Checks.told(five + "bus k 97 25 1 0;").goes(4), 198);
        CHECKS.due("199", Checks.told(five + "bus k 98 25 1 0;").goes(4), 199);
        HeavenStop x = Checks.told(five + "bus k 99 25 1 0;");
        CHECKS.due("200: not by then", x.goes(4), -2);
        CHECKS.due("175", x.goes(3), 175);
        x.go(1);
        CHECKS.due("199 from minute 1 on", x.goes(4), 199);
    }

    private static void goesThisOne() {
        CHECKS.says("GOES (1: this one), he is GONE (0: he is)");
        HeavenStop x = Checks.told("soul a 0 0 0;bus k 3 30 1 0;");
        int[] want = {4, 3, 2, 1, 0, 0};
        for (int minute = 0; minute < want.length; minute++) {
            CHECKS.due("at " + minute, x.goes(0), want[minute]);
            x.go(1);
        }
        // In the minute of his death, which is the bus's as well.
        x = Checks.told("soul a 3 0 0;bus k 3 30 1 0;");
        CHECKS.due("at 0", x.goes(0), 4);
        x.go(3);
        CHECKS.due("at 3, where he isn't there yet", x.goes(0), 1);
    }

    private static void goesNone() {
        CHECKS.says("18: -2: not by then; NONE: no such SOUL");
        HeavenStop x = Checks.told(souls(8, "0 0 0") + "bus k 1 1 8 0;");
        CHECKS.range("goes", 0, 7, -1, x::goes);
        x.go(1);
        x.off(7);
        CHECKS.due("off", x.goes(7), -2);
        CHECKS.due("this one", x.goes(6), 1);
        x.go(1);
        CHECKS.due("off", x.goes(7), -2);
        CHECKS.due("gone", x.goes(6), 0);
        CHECKS.due("no bus", Checks.told("soul a 0 0 0;").goes(0), -2);
        CHECKS.due("nobody", new HeavenStop().goes(0), -1);
    }

    private static void emptyAtMost() {
        CHECKS.says("EMPTY: in how many MINUTES as it goes, 199 at most, nobody WAITS, and nobody is still to come");
        String five = souls(5, "0 0 0");
        CHECKS.due("198", Checks.told(five + "bus k 97 25 1 0;").empty(), 198);
        CHECKS.due("199", Checks.told(five + "bus k 98 25 1 0;").empty(), 199);
        HeavenStop x = Checks.told(five + "bus k 99 25 1 0;");
        CHECKS.due("200: not by then", x.empty(), -2);
        x.go(1);
        CHECKS.due("199 from minute 1 on", x.empty(), 199);
        // Nobody waits from 1 to 50, but one is still to come.
        x = Checks.told("soul a 0 0 0;soul b 50 0 0;bus k 0 1 1 0;");
        CHECKS.due("51", x.empty(), 51);
        x.go(50);
        CHECKS.due("1", x.empty(), 1);
        x.go(1);
        CHECKS.due("0", x.empty(), 0);
        CHECKS.due("one who never goes", Checks.told("soul a 99 0 0;").empty(), -2);
    }

    private static void emptySoItIs() {
        CHECKS.says("EMPTY (0: so it is)");
        CHECKS.due("no souls", new HeavenStop().empty(), 0);
        CHECKS.due("no souls, a bus", Checks.told("bus k 0 1 1 0;").empty(), 0);
        HeavenStop x = Checks.told(souls(8, "0 0 0"));
        CHECKS.due("eight to come", x.empty(), -2);
        x.go(1);
        for (int i = 7; i > 0; i--) {
            x.off(i);
            CHECKS.due("some wait", x.empty(), -2);
        }
        x.off(0);
        CHECKS.due("all are off", x.empty(), 0);
        x = Checks.told("soul a 0 0 0;soul h 3 0 0;bus k 0 1 1 0;");
        x.go(1);
        CHECKS.due("nobody waits, one is to come", x.empty(), 3);
    }

    // ---- promises 20 to 23 ----

    private static void orderOfFour() {
        CHECKS.says("ORDER of the first four who WAIT, the others behind them as they are; -2: not so many WAIT");
        // A bus for one: the kindest of the first four goes.
        String[] soul = {"soul a 0 1 0;", "soul b 0 7 0;", "soul c 0 5 0;", "soul d 0 9 0;", "soul e 0 99 0;", "soul f 0 98 0;"};
        int[][] want = {{-2, -2, -2, -2, 0}, {0, -2, -2, -2, 1}, {1, 0, -2, -2, 7}, {1, 0, 2, -2, 7}, {3, 0, 1, 2, 9},
            {3, 0, 1, 2, 9}, {3, 0, 1, 2, 9}};
        StringBuilder text = new StringBuilder("bus k 3 30 1 0;");
        for (int many = 0; many <= 6; many++) {
            HeavenStop x = Checks.told(text.toString());
            x.go(1);
            orderIs(many + " wait", x, want[many]);
            if (many < 6) {
                text.append(soul[many]);
            }
        }
        // Only he at place 4 may: the first four can't help it.
        HeavenStop x = Checks.told(text + "law may place=4;");
        x.go(1);
        orderIs("e at place 4", x, 0, 1, 2, 3, 99);
        x.move(5, 4);
        orderIs("f at place 4", x, 0, 1, 2, 3, 98);
        x.move(5, 0);
        orderIs("d at place 4, f a b c ahead of it", x, 0, 1, 2, 5, 9);
        CHECKS.row("the queue stays", Checks.queue(x), 5, 0, 1, 2, 3, 4);
        // Only he at place 3 may: the kindest of the four is there.
        x = Checks.told(text + "law may place=3;");
        x.go(1);
        orderIs("d at place 3", x, 0, 1, 2, 3, 9);
        x.move(3, 0);
        orderIs("d at place 3 again", x, 0, 1, 2, 3, 9);
        // Eight wait: the last places stay as they are.
        x = Checks.told(souls(7, "0 1 0") + "soul h 0 2 0;bus k 3 30 1 0;law may place=7;");
        x.go(1);
        orderIs("h is at place 7", x, 0, 1, 2, 3, 2);
    }

    private static void orderMinutes() {
        CHECKS.says("KINDNESS of those who are GONE 20 MINUTES from now as it goes is most in sum");
        for (int now = 1; now <= 3; now++) {
            for (int minute : new int[] {now + 18, now + 19, now + 20}) {
                HeavenStop x = Checks.told("soul a 0 6 0;soul b 0 7 0;bus k " + minute + " 30 1 0;");
                x.go(now);
                if (minute - now < 20) {
                    orderIs("the bus of " + minute + " at " + now, x, 1, 0, -2, -2, 7);
                } else {
                    orderIs("the bus of " + minute + " at " + now, x, 0, 1, -2, -2, 0);
                }
            }
        }
        // Those who are gone already are gone then, too; those who come meanwhile may go.
        HeavenStop x = Checks.told("soul a 0 50 0;soul b 0 20 0;soul c 0 10 0;soul d 8 5 0;bus k 0 9 1 0;");
        x.go(1);
        orderIs("a is gone, a bus in 9 and 18", x, 1, 2, -2, -2, 80);
        // Rain as it goes: 50 soaks, 49 doesn't; who is wet may go.
        String wet = "soul a 0 5 0;soul b 0 6 0;bus k 9 30 1 0;seats 1;law may wet>0;rain ";
        CHECKS.due("rain 49", Checks.told(wet + "49;").order(4), 0);
        CHECKS.due("rain 50", Checks.told(wet + "50;").order(4), 6);
    }

    private static void orderFirstBySouls() {
        CHECKS.says("ORDER, of several the first by SOULS");
        HeavenStop x = Checks.told("soul a 3 6 0;soul b 2 6 0;soul c 1 6 0;soul d 0 6 0;bus k 5 30 2 0;");
        x.go(4);
        CHECKS.row("d c b a", Checks.queue(x), 3, 2, 1, 0);
        orderIs("all alike", x, 0, 1, 2, 3, 12);
        x = Checks.told("soul a 3 6 0;soul b 2 7 0;soul c 1 6 0;soul d 0 7 0;bus k 5 30 2 0;");
        x.go(4);
        orderIs("b and d go", x, 1, 3, 0, 2, 14);
        x = Checks.told("soul a 3 6 0;soul b 2 7 0;soul c 1 7 0;soul d 0 7 0;bus k 5 30 1 0;");
        x.go(4);
        orderIs("b, c or d goes", x, 1, 0, 2, 3, 7);
        x = Checks.told("soul a 0 0 0;soul b 0 0 0;bus k 5 30 1 0;");
        x.go(1);
        x.move(1, 0);
        orderIs("no kindness", x, 0, 1, -2, -2, 0);
        // The first four are the last by number.
        x = Checks.told(souls(4, "1 1 0") + "soul e 0 2 0;soul f 0 3 0;soul g 0 2 0;soul h 0 3 0;bus k 5 30 3 0;");
        x.go(2);
        CHECKS.row("e f g h ahead", Checks.queue(x), 4, 5, 6, 7, 0, 1, 2, 3);
        orderIs("e, f and h", x, 4, 5, 7, 6, 8);
    }

    private static void orderNone() {
        CHECKS.says("20: NONE for another what");
        HeavenStop x = Checks.told(souls(4, "0 1 0"));
        CHECKS.range("nobody waits", 0, 4, -1, x::order);
        x.go(1);
        CHECKS.range("four wait", 0, 4, -1, x::order);
    }

    private static void tripsByRoom() {
        CHECKS.says("TRIPS of a BUS: how often it must come, till all who WAIT and now MAY get on are in");
        for (int room = 1; room <= 8; room++) {
            for (int many = 0; many <= 8; many++) {
                HeavenStop x = Checks.told(souls(many, "0 0 0") + "bus k 9 1 " + room + " 0;");
                x.go(1);
                int want = 0;
                for (int left = many; left > 0; left -= room) {
                    want++;
                }
                CHECKS.due(many + " for a room of " + room, x.trips(0), want);
            }
        }
    }

    private static void tripsNow() {
        CHECKS.says("TRIPS (COINS, law as now; whom one LETS isn't looked at)");
        HeavenStop x = Checks.told("soul a 0 0 4;soul b 0 0 5;soul c 0 0 6;soul d 5 0 99;bus k 9 1 1 5;lets a b;lets b a;"
            + "lets c a;");
        CHECKS.due("nobody waits yet", x.trips(0), 0);
        x.go(1);
        CHECKS.due("b and c", x.trips(0), 2);
        x.give(0, 1);
        CHECKS.due("a as well", x.trips(0), 3);
        x.off(2);
        CHECKS.due("c is off", x.trips(0), 2);
        x.undo();
        x.undo();
        CHECKS.due("undone", x.trips(0), 2);
        // What was tried otherwise is no more.
        x.tried(3, 0, 0);
        CHECKS.due("behind all may", x.trips(0), 2);
        x.tried(5, 0, 0);
        CHECKS.due("behind 99 coins", x.trips(0), 2);
        x.ahead(6, 4, 0);
        CHECKS.due("behind ahead", x.trips(0), 2);
        x = Checks.told("soul a 0 4 0;soul b 0 5 0;soul c 0 6 0;bus k 9 1 1 5;law may kind-5;");
        x.go(1);
        CHECKS.due("by law", x.trips(0), 2);
    }

    private static void tripsNone() {
        CHECKS.says("21: NONE: no such BUS");
        HeavenStop x = Checks.told(FOUR_BUSES);
        CHECKS.range("trips", 0, 3, -1, x::trips);
        CHECKS.due("nobody", x.trips(3), 0);
    }

    private static void matchNoneIsLast() {
        CHECKS.says("MATCH: each BUS none or one who MAY get on it now, no SOUL twice; (none is last)");
        HeavenStop x = Checks.told("soul a 0 0 0;bus k 9 1 1 0;");
        x.go(1);
        matchIs("one without kindness", x, 0, -2, -2, -2, 0);
        x = Checks.told("soul a 0 0 0;bus k 9 1 1 0;bus l 9 1 1 0;");
        x.go(1);
        matchIs("one for two buses", x, 0, -2, -2, -2, 0);
        x = Checks.told("soul a 0 0 0;bus k 9 1 1 1;bus l 9 1 1 0;");
        x.go(1);
        matchIs("the second bus alone", x, -2, 0, -2, -2, 0);
        x = Checks.told(souls(8, "0 0 0") + FOUR_BUSES);
        x.go(1);
        matchIs("eight without kindness", x, 0, 1, 2, 3, 0);
        x = Checks.told(souls(3, "0 99 0") + FOUR_BUSES);
        x.go(1);
        matchIs("three for four", x, 0, 1, 2, -2, 297);
        x = Checks.told(souls(4, "0 99 0") + FOUR_BUSES);
        x.go(1);
        matchIs("four for four", x, 0, 1, 2, 3, 396);
        x = Checks.told(souls(5, "0 99 0") + FOUR_BUSES);
        x.go(1);
        matchIs("five for four", x, 0, 1, 2, 3, 396);
    }

    private static void matchFirstByBuses() {
        CHECKS.says("MATCH: so that KINDNESS in sum is most, of several the first by BUSES");
        HeavenStop x = Checks.told("soul a 0 5 0;soul b 0 5 0;soul c 0 6 0;bus k 9 1 1 0;bus l 9 1 1 0;");
        x.go(1);
        matchIs("a and c, not b", x, 0, 2, -2, -2, 11);
        x.move(2, 0);
        x.move(1, 1);
        matchIs("by numbers, not places", x, 0, 2, -2, -2, 11);
        // The last soul for the last bus, the last soul for the first one.
        x = Checks.told(souls(7, "0 1 0") + "soul h 0 1 9;bus a 9 1 1 9;bus b 9 1 1 0;bus c 9 1 1 0;bus d 9 1 1 0;");
        x.go(1);
        matchIs("h for the first", x, 7, 0, 1, 2, 4);
        x = Checks.told(souls(7, "0 1 0") + "soul h 0 1 9;bus a 9 1 1 0;bus b 9 1 1 0;bus c 9 1 1 0;bus d 9 1 1 9;");
        x.go(1);
        matchIs("h for the last", x, 0, 1, 2, 7, 4);
        // One more kindness is worth being behind.
        x = Checks.told("soul a 0 5 9;soul b 0 6 0;bus k 9 1 1 0;bus l 9 1 1 9;");
        x.go(1);
        matchIs("both", x, 1, 0, -2, -2, 11);
    }

    private static void matchMayNow() {
        CHECKS.says("MATCH: SOULS who WAIT for the BUSES, who MAY get on it now");
        HeavenStop x = Checks.told("soul a 0 9 4;soul b 0 8 5;soul c 0 7 6;soul d 3 99 99;bus k 9 1 1 5;");
        matchIs("nobody waits", x, -2, -2, -2, -2, 0);
        x.go(1);
        matchIs("4 for 5 may not", x, 1, -2, -2, -2, 8);
        x.give(0, 1);
        matchIs("5 for 5 may", x, 0, -2, -2, -2, 9);
        x.off(0);
        matchIs("off", x, 1, -2, -2, -2, 8);
        x.go(3);
        matchIs("d is there", x, 3, -2, -2, -2, 99);
        x.off(3);
        x.give(1, 1);
        matchIs("d is off", x, 1, -2, -2, -2, 8);
        for (int what : new int[] {3, 5}) {
            x.off(1);
            x.off(2);
            x.tried(what, 0, 9);
            CHECKS.due("nobody waits behind tried " + what, x.match(4), 0);
            x.undo();
            x.undo();
            x.ahead(9, 0, 0);
            CHECKS.due("b waits behind ahead", x.match(0), 1);
        }
        x.undo();
        x.undo();
        matchIs("undone", x, 3, -2, -2, -2, 99);
        x.go(6);
        CHECKS.due("b is gone with k", Checks.soul(x, 1, 0), 2);
        matchIs("b is gone", x, 3, -2, -2, -2, 99);
    }

    private static void matchNone() {
        CHECKS.says("22: -2: none, no such BUS; NONE for another what");
        HeavenStop x = new HeavenStop();
        CHECKS.range("no buses", 0, 4, -1, x::match);
        matchIs("no buses", x, -2, -2, -2, -2, 0);
        HeavenStop y = Checks.told(souls(8, "0 1 0") + FOUR_BUSES);
        CHECKS.range("four buses", 0, 4, -1, y::match);
        y.go(1);
        CHECKS.range("four buses, eight wait", 0, 4, -1, y::match);
        HeavenStop z = Checks.told(souls(8, "0 1 0") + "bus k 9 1 1 0;bus l 9 1 1 0;");
        z.go(1);
        matchIs("two buses", z, 0, 1, -2, -2, 2);
        // A text with more buses ahead of it leaves nothing.
        Checks.tell(y, souls(8, "0 1 0") + "bus k 9 1 1 0;");
        y.go(1);
        matchIs("one bus", y, 0, -2, -2, -2, 1);
    }

    private static void coinsFewest() {
        CHECKS.says("COINS for a SOUL: the fewest more 0 .. 99 by which he is GONE; (0: as it is)");
        for (int coins : new int[] {0, 1, 4, 5, 6, 99}) {
            HeavenStop x = Checks.told("soul a 0 0 " + coins + ";bus k 1 1 1 5;");
            CHECKS.due(coins + " for 5", x.coins(0), Math.max(0, 5 - coins));
            CHECKS.due("he gets none", Checks.soul(x, 0, 2), coins);
        }
        HeavenStop x = Checks.told("soul a 0 0 3;bus k 1 1 1 5;");
        x.give(0, 1);
        CHECKS.due("of what he has now", x.coins(0), 1);
        x.give(0, 1);
        CHECKS.due("enough", x.coins(0), 0);
        x.go(2);
        CHECKS.due("gone", x.coins(0), 0);
        // More than enough is no better: he goes with just so many.
        x = Checks.told("soul a 0 0 10;bus k 1 1 1 0;law may coins=12 or coins=50;");
        CHECKS.due("2", x.coins(0), 2);
    }

    private static void coinsAtMost() {
        CHECKS.says("COINS (99 at most in all); -2: by none");
        for (int coins : new int[] {0, 1, 50, 98, 99}) {
            HeavenStop x = Checks.told("soul a 0 0 " + coins + ";bus k 1 1 1 99;");
            CHECKS.due(coins + " for 99", x.coins(0), 99 - coins);
            HeavenStop y = Checks.told("soul a 0 0 " + coins + ";bus k 1 1 1 0;law may coins=99;");
            CHECKS.due(coins + ": just 99", y.coins(0), 99 - coins);
            HeavenStop z = Checks.told("soul a 0 0 " + coins + ";bus k 1 1 1 0;law may coins=98;");
            CHECKS.due(coins + ": just 98", z.coins(0), coins == 99 ? -2 : 98 - coins);
            HeavenStop w = Checks.told("soul a 0 0 " + coins + ";bus k 1 1 1 0;law may coins>99;");
            CHECKS.due(coins + ": above 99", w.coins(0), -2);
        }
        CHECKS.due("no bus", Checks.told("soul a 0 0 0;").coins(0), -2);
    }

    private static void coinsMinutes() {
        CHECKS.says("COINS: GONE within 60 MINUTES as it goes");
        CHECKS.due("the bus of 58", Checks.told("soul a 0 0 3;bus k 58 30 1 9;").coins(0), 6);
        CHECKS.due("the bus of 59", Checks.told("soul a 0 0 3;bus k 59 30 1 9;").coins(0), 6);
        HeavenStop x = Checks.told("soul a 0 0 3;bus k 60 30 1 9;");
        CHECKS.due("the bus of 60", x.coins(0), -2);
        x.go(1);
        CHECKS.due("the bus of 60 at 1", x.coins(0), 6);
        // 0 as it is, but not by then.
        CHECKS.due("59 with enough", Checks.told("soul a 0 0 9;bus k 59 30 1 9;").coins(0), 0);
        CHECKS.due("60 with enough", Checks.told("soul a 0 0 9;bus k 60 30 1 9;").coins(0), -2);
        // One who comes in minute 59.
        CHECKS.due("died at 59", Checks.told("soul a 59 0 0;bus k 0 1 1 9;").coins(0), 9);
        CHECKS.due("died at 60", Checks.told("soul a 60 0 0;bus k 0 1 1 9;").coins(0), -2);
        // Another one who goes first by what he has.
        x = Checks.told("soul a 0 0 99;soul b 0 0 0;bus k 29 30 1 9;lets b a;");
        CHECKS.due("behind a, in 59", x.coins(1), 9);
        x = Checks.told("soul a 0 0 99;soul b 0 0 0;bus k 30 30 1 9;");
        CHECKS.due("behind a, in 60", x.coins(1), -2);
    }

    private static void coinsNone() {
        CHECKS.says("23: NONE: no such SOUL");
        HeavenStop x = Checks.told(souls(8, "0 0 0") + "bus k 1 1 8 1;");
        CHECKS.range("coins", 0, 7, -1, x::coins);
        x.go(1);
        x.off(7);
        CHECKS.due("off: by none", x.coins(7), -2);
        CHECKS.due("waits", x.coins(6), 1);
        CHECKS.due("nobody", new HeavenStop().coins(0), -1);
    }

    // ---- promises 24 to 26 ----

    private static void restsNeitherMore() {
        CHECKS.says("A REST: neither would have more otherwise. RESTS: by the first one's, then the second one's");
        int[][] kinds = {{0, 0}, {0, 1}, {1, 0}, {4, 6}, {50, 49}};
        for (int[] kind : kinds) {
            int sum = kind[0] + kind[1];
            for (int one = Math.max(0, sum - 1); one <= Math.min(99, sum + 1); one++) {
                for (int two = Math.max(0, sum - 1); two <= Math.min(99, sum + 1); two++) {
                    restsOf(kind[0], one, kind[1], two);
                }
            }
        }
        restsOf(99, 99, 99, 99);
        restsOf(0, 99, 0, 99);
        restsOf(99, 0, 99, 0);
    }

    /**
     * To hold alone is no less than to yield with the other one, and as much only if one has nothing at
     * all; to hold against one who holds is more than to yield, if COINS are more than both KINDNESSES.
     */
    private static void restsOf(int kindA, int coinsA, int kindB, int coinsB) {
        int sum = kindA + kindB;
        boolean[] is = {kindA + coinsA == 0 && kindB + coinsB == 0, coinsA <= sum, coinsB <= sum,
            coinsA >= sum && coinsB >= sum};
        int[] codes = {0, 1, 10, 11};
        HeavenStop x = Checks.told("soul a 0 " + kindA + " " + coinsA + ";soul b 0 " + kindB + " " + coinsB + ";");
        String what = "(" + kindA + " " + coinsA + ", " + kindB + " " + coinsB + ")";
        int many = 0;
        for (int i = 0; i < 4; i++) {
            if (is[i]) {
                CHECKS.due(what + " rest " + many, x.rest(0, 1, many), codes[i]);
                many++;
            }
        }
        CHECKS.due(what + " rests", x.rests(0, 1), many);
        CHECKS.due(what + " rests, other way round", x.rests(1, 0), many);
        CHECKS.due(what + " no more", x.rest(0, 1, many), -2);
    }

    private static void restsNone() {
        CHECKS.says("24: NONE: no such SOULS, alike. 25: -2: there are no so many; NONE likewise, k is below 0");
        HeavenStop x = Checks.told(souls(8, "0 0 0"));
        for (int none : new int[] {Integer.MIN_VALUE, -1, 8, Integer.MAX_VALUE}) {
            CHECKS.due("rests: one is " + none, x.rests(none, 0), -1);
            CHECKS.due("rests: other is " + none, x.rests(0, none), -1);
            CHECKS.due("rest: one is " + none, x.rest(none, 0, 0), -1);
            CHECKS.due("rest: other is " + none, x.rest(0, none, 0), -1);
            CHECKS.due("rest: one is " + none + ", k is far", x.rest(none, 0, 9), -1);
        }
        for (int soul = 0; soul < 8; soul++) {
            CHECKS.due("alike " + soul, x.rests(soul, soul), -1);
            CHECKS.due("alike " + soul, x.rest(soul, soul, 0), -1);
        }
        CHECKS.due("four of the last two", x.rests(6, 7), 4);
        CHECKS.due("four of the last two", x.rests(7, 6), 4);
        CHECKS.due("k -1", x.rest(6, 7, -1), -1);
        CHECKS.due("k least", x.rest(6, 7, Integer.MIN_VALUE), -1);
        CHECKS.due("k 0", x.rest(6, 7, 0), 0);
        CHECKS.due("k 3", x.rest(6, 7, 3), 11);
        CHECKS.due("k 4", x.rest(6, 7, 4), -2);
        CHECKS.due("k largest", x.rest(6, 7, Integer.MAX_VALUE), -2);
    }

    private static void dryTerms() {
        CHECKS.says("DRY for n MINUTES: how likely it doesn't rain in them, as a fraction, in least terms");
        for (int rain : new int[] {0, 1, 2, 4, 5, 10, 20, 25, 49, 50, 51, 75, 80, 96, 98, 99, 100}) {
            HeavenStop x = Checks.told("rain " + rain + ";");
            BigInteger above = BigInteger.valueOf(100 - rain);
            BigInteger below = BigInteger.valueOf(100);
            for (int n = 0; n <= 6; n++) {
                BigInteger common = above.pow(n).gcd(below.pow(n));
                CHECKS.due("rain " + rain + " for " + n, x.dry(n, 0), above.pow(n).divide(common).longValueExact());
                CHECKS.due("rain " + rain + " for " + n, x.dry(n, 1), below.pow(n).divide(common).longValueExact());
            }
        }
        CHECKS.due("without rain", new HeavenStop().dry(6, 1), 1);
    }

    private static void dryNone() {
        CHECKS.says("26: DRY (n 0 .. 6), what 0, 1. NONE: no such ones");
        HeavenStop x = Checks.told("rain 30;");
        CHECKS.range("n above", 0, 6, -1, n -> x.dry(n, 0));
        CHECKS.range("n below", 0, 6, -1, n -> x.dry(n, 1));
        CHECKS.range("what of 0", 0, 1, -1, what -> x.dry(0, what));
        CHECKS.range("what of 6", 0, 1, -1, what -> x.dry(6, what));
    }

    // ---- promises 32 and 33 ----

    private static void chanceAtLeast() {
        CHECKS.says("32: a SOUL is so WET 0 .. 999 at least then");
        HeavenStop x = Checks.told("soul a 0 0 0;soul b 0 99 0;seats 0;rain 100;law soak kind;");
        int[] minutes = {1, 2, 10, 11, 99};
        int[] wet = {99, 198, 990, 999, 999};
        for (int i = 0; i < minutes.length; i++) {
            CHECKS.due(minutes[i] + ": less", x.chance(1, minutes[i], 1, wet[i] - 1), 10);
            CHECKS.due(minutes[i] + ": just so", x.chance(1, minutes[i], 1, wet[i]), 10);
            if (wet[i] < 999) {
                CHECKS.due(minutes[i] + ": more", x.chance(1, minutes[i], 1, wet[i] + 1), 0);
            }
            CHECKS.due(minutes[i] + ": the dry one 0", x.chance(1, minutes[i], 0, 0), 10);
            CHECKS.due(minutes[i] + ": the dry one 1", x.chance(1, minutes[i], 0, 1), 0);
        }
        // From now: what he is already counts.
        x.go(3);
        CHECKS.due("396", x.chance(1, 1, 1, 396), 10);
        CHECKS.due("397", x.chance(1, 1, 1, 397), 0);
    }

    private static void chanceDrawn() {
        CHECKS.says("32: In how many of ten times drawn (numbers from a seed 0 .. 2147483647 on, one behind another)");
        for (int seed : new int[] {0, 1, 99999, 1 << 30, Integer.MAX_VALUE - 1, Integer.MAX_VALUE}) {
            for (int rain : new int[] {1, 49, 50, 51, 99}) {
                HeavenStop x = Checks.told("soul a 0 0 0;seats 0;rain " + rain + ";seed 5;");
                for (int n : new int[] {1, 2, 99}) {
                    for (int least : new int[] {1, n / 2 + 1, n}) {
                        String what = "seed " + seed + ", rain " + rain + ", n " + n + ", wet " + least;
                        CHECKS.due(what, x.chance(seed, n, 0, least), drawn(seed, rain, n, least));
                    }
                }
            }
        }
        // The stop's own numbers go on as if nothing was drawn.
        HeavenStop x = Checks.told("soul a 0 0 0;seats 0;rain 50;seed 5;");
        HeavenStop y = Checks.told("soul a 0 0 0;seats 0;rain 50;seed 5;");
        x.chance(77, 50, 0, 3);
        x.go(60);
        y.go(60);
        CHECKS.due("the same rain", Checks.soul(x, 0, 3), Checks.soul(y, 0, 3));
    }

    private static int drawn(long seed, int rain, int n, int least) {
        long last = seed;
        int many = 0;
        for (int i = 0; i < 10; i++) {
            int wet = 0;
            for (int minute = 0; minute < n; minute++) {
                last = Math.floorMod(last * 1103515245L + 12345L, 1L << 31);
                wet += last / 65536 % 100 < rain ? 1 : 0;
            }
            many += wet >= least ? 1 : 0;
        }
        return many;
    }

    private static void chanceNone() {
        CHECKS.says("32: (a seed 0 .. 2147483647, n 1 .. 99, WET 0 .. 999); NONE: no such ones");
        HeavenStop x = Checks.told(souls(8, "0 0 0") + "rain 50;seats 0;");
        CHECKS.due("seed -1", x.chance(-1, 1, 0, 0), -1);
        CHECKS.due("seed least", x.chance(Integer.MIN_VALUE, 1, 0, 0), -1);
        CHECKS.due("seed 0", x.chance(0, 1, 0, 0), 10);
        CHECKS.due("seed largest", x.chance(Integer.MAX_VALUE, 1, 0, 0), 10);
        CHECKS.range("n", 1, 99, -1, n -> x.chance(0, n, 7, 0));
        CHECKS.range("soul", 0, 7, -1, soul -> x.chance(0, 1, soul, 0));
        CHECKS.range("wet", 0, 999, -1, wet -> x.chance(0, 1, 7, wet));
        CHECKS.due("nobody", new HeavenStop().chance(0, 1, 0, 0), -1);
    }

    private static void triedMinutes() {
        CHECKS.says("TRIED for n MINUTES as it goes: how many more are GONE: 0 as it goes");
        HeavenStop x = Checks.told(souls(8, "0 0 0") + "bus k 99 25 1 0;");
        int[] minutes = {0, 1, 99, 100, 124, 125, 199, 200};
        int[] gone = {0, 0, 0, 1, 1, 2, 4, 5};
        for (int i = 0; i < minutes.length; i++) {
            CHECKS.due("for " + minutes[i], x.tried(0, 0, minutes[i]), gone[i]);
        }
        x.go(100);
        CHECKS.due("more than now", x.tried(0, 0, 0), 0);
        CHECKS.due("more than now", x.tried(0, 0, 24), 0);
        CHECKS.due("more than now", x.tried(0, 0, 25), 1);
        CHECKS.due("one is gone", x.count(6), 1);
    }

    private static void triedLets() {
        CHECKS.says("TRIED: 1 nobody LETS anyone");
        HeavenStop x = Checks.told("soul a 0 0 0;soul b 0 0 0;bus k 0 1 1 0;lets a b;lets b a;");
        CHECKS.due("as it goes", x.tried(0, 0, 2), 0);
        CHECKS.due("nobody lets, 0", x.tried(1, 0, 0), 0);
        CHECKS.due("nobody lets, 1", x.tried(1, 0, 1), 1);
        CHECKS.due("nobody lets, 2", x.tried(1, 0, 2), 2);
        CHECKS.due("they let still", x.tried(0, 0, 2), 0);
        CHECKS.due("they let still", x.lets(0), 2);
    }

    private static void triedNotThere() {
        CHECKS.says("TRIED: 2 SOUL i isn't there (if he WAITS he walks OFF now)");
        HeavenStop x = Checks.told("soul a 0 0 0;soul b 0 0 0;soul c 0 0 0;soul d 4 0 0;bus k 0 2 1 0;law may kind=0;");
        x.go(1);
        x.off(1);
        // a is gone, b is off, c waits, d comes in 4; buses in 2, 4.
        CHECKS.due("as it goes", x.tried(0, 0, 9), 2);
        CHECKS.due("gone: he stays gone", x.tried(2, 0, 9), 2);
        CHECKS.due("off: he stays off", x.tried(2, 1, 9), 2);
        CHECKS.due("waits: walks off", x.tried(2, 2, 9), 1);
        CHECKS.due("not yet: never comes", x.tried(2, 3, 9), 1);
        CHECKS.due("not yet: never comes in his minute", x.tried(2, 3, 4), 1);
        CHECKS.due("c waits still", Checks.soul(x, 2, 0), 1);
        CHECKS.due("nothing to undo but b", x.count(13), 1);
        // He at place 0, in the middle, at the last place of eight.
        HeavenStop y = Checks.told(souls(8, "0 0 0") + "bus k 1 30 8 0;law may place<7;");
        y.go(1);
        CHECKS.due("as it goes", y.tried(0, 0, 1), 7);
        for (int soul = 0; soul < 8; soul++) {
            CHECKS.due("all seven others without " + soul, y.tried(2, soul, 1), 7);
        }
        CHECKS.due("all wait", y.count(5), 8);
    }

    private static void triedMay() {
        CHECKS.says("TRIED: 3 all MAY");
        HeavenStop x = Checks.told("soul a 0 0 4;soul b 0 0 5;soul c 1 0 0;bus k 0 1 1 5;");
        CHECKS.due("as it goes", x.tried(0, 0, 5), 1);
        CHECKS.due("all may, 1", x.tried(3, 0, 1), 1);
        CHECKS.due("all may, 3", x.tried(3, 0, 3), 3);
        x = Checks.told("soul a 0 0 4;bus k 0 1 1 5;law may 0;");
        CHECKS.due("by law nobody", x.tried(0, 0, 5), 0);
        CHECKS.due("all may", x.tried(3, 0, 5), 1);
        x = Checks.told("soul a 0 0 4;bus k 0 1 1 5;law may 1/0;");
        CHECKS.due("with an error nobody", x.tried(0, 0, 5), 0);
        CHECKS.due("all may", x.tried(3, 0, 5), 1);
    }

    private static void triedRoom() {
        CHECKS.says("TRIED: 4 ROOM is 8");
        for (int many = 1; many <= 8; many++) {
            HeavenStop x = Checks.told(souls(many, "0 0 0") + "bus k 0 30 1 0;");
            CHECKS.due(many + " as it goes", x.tried(0, 0, 1), 1);
            CHECKS.due(many + " in one", x.tried(4, 0, 1), many);
            CHECKS.due("room stays", x.bus(0, 2), 1);
        }
        HeavenStop x = Checks.told(souls(8, "0 0 0") + "bus k 0 30 8 0;");
        CHECKS.due("room is 8 anyway", x.tried(4, 0, 1), 8);
    }

    private static void triedCoins() {
        CHECKS.says("TRIED: 5 all have 99 COINS now");
        HeavenStop x = Checks.told(souls(8, "2 0 0") + "bus k 0 1 8 99;");
        CHECKS.due("as it goes", x.tried(0, 0, 3), 0);
        CHECKS.due("99 for 99", x.tried(5, 0, 3), 8);
        CHECKS.due("coins stay", Checks.soul(x, 7, 2), 0);
        x = Checks.told("soul a 0 0 0;soul b 0 0 98;soul c 0 0 99;bus k 0 1 8 0;law may coins=99;");
        CHECKS.due("just 99", x.tried(5, 0, 1), 3);
        x = Checks.told("soul a 0 0 0;soul b 0 0 98;soul c 0 0 99;bus k 0 1 8 0;law may coins=98;");
        CHECKS.due("98 as it goes", x.tried(0, 0, 1), 1);
        CHECKS.due("nobody has 98", x.tried(5, 0, 1), 0);
    }

    private static void triedNone() {
        CHECKS.says("33: TRIED (n 0 .. 200); NONE: no such ones (i 0 of all but 2)");
        HeavenStop x = Checks.told(souls(8, "0 0 0") + "bus k 0 1 1 0;");
        CHECKS.range("what", 0, 5, -1, what -> x.tried(what, 0, 1));
        CHECKS.range("i of 2", 0, 7, -1, i -> x.tried(2, i, 1));
        for (int what = 0; what <= 5; what++) {
            int asked = what;
            CHECKS.range("n of " + what, 0, 200, -1, n -> x.tried(asked, 0, n));
            if (what != 2) {
                CHECKS.range("i of " + what, 0, 0, -1, i -> x.tried(asked, i, 1));
            }
        }
        HeavenStop y = new HeavenStop();
        CHECKS.due("nobody isn't there", y.tried(2, 0, 1), -1);
        CHECKS.due("nobody goes", y.tried(0, 0, 1), 0);
        CHECKS.due("nobody goes", y.tried(5, 0, 200), 0);
    }
}
