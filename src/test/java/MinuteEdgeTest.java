/**
 * Part 2 of the terms and promises 6, 8, 10 to 14: each sentence that names a bound has a method of its
 * own, which asks at the bound and on both sides of it.
 */
public final class MinuteEdgeTest {
    private static final Checks CHECKS = new Checks();
    private static final long ERROR = Long.MIN_VALUE;

    public static void main(String[] args) {
        states();
        comingByNumbers();
        busComes();
        busesByNumbers();
        turnCut();
        turnWithout();
        turnWithAnError();
        mayIsNotZero();
        mayWithout();
        mayWithAnError();
        aheadOfAnyone();
        asLongAsThereIsRoom();
        letsOneWhoWaitsAndMay();
        leastTurnLeastPlace();
        coinsLessByFare();
        movesUp();
        passed();
        rainBelow();
        noNumber();
        fromSeatsOn();
        soakCut();
        soakWithout();
        wetAtMost();
        names();
        cutTowardsZero();
        notZeroIsAsOne();
        comparisons();
        bothSides();
        errorByZero();
        errorTooLarge();
        numbersWrapAround();
        asItGoes();
        soulNone();
        soulDoesNotWait();
        soulWith();
        queuePlaces();
        lawNone();
        lawPlaceNine();
        moveRefused();
        moveAtTheEnds();
        giveCoins();
        giveRefused();
        offRefused();
        goMinutes();
        goBehind();
        CHECKS.end("MinuteEdgeTest");
    }

    // ---- helpers ----

    private static String souls(int many, String numbers) {
        StringBuilder all = new StringBuilder();
        for (int i = 0; i < many; i++) {
            all.append("soul ").append((char) ('a' + i)).append(' ').append(numbers).append(';');
        }
        return all.toString();
    }

    /** Which of two gets on first, the first one of them at PLACE 0. */
    private static int firstOf(int kindA, int kindB, String laws) {
        HeavenStop x = Checks.told("soul a 0 " + kindA + " 5;soul b 0 " + kindB + " 5;bus k 1 1 1 0;" + laws);
        x.go(2);
        CHECKS.due("one is gone", x.count(6), 1);
        return Checks.soul(x, 0, 0) == 2 ? 0 : 1;
    }

    /** Whether one with so much KINDNESS and COINS gets on for a FARE of 5. */
    private static boolean getsOn(int kind, int coins, String laws) {
        HeavenStop x = Checks.told("soul a 0 " + kind + ' ' + coins + ";bus k 0 30 1 5;" + laws);
        x.go(1);
        return x.count(6) == 1;
    }

    /** How WET one is behind so many MINUTES of rain, without seats. */
    private static int wet(int kind, int minutes, String laws) {
        HeavenStop x = Checks.told("soul a 0 " + kind + " 0;rain 100;seats 0;" + laws);
        for (int left = minutes; left > 0; left -= 200) {
            x.go(Math.min(left, 200));
        }
        return Checks.soul(x, 0, 3);
    }

    private static void worth(String e, long want) {
        HeavenStop x = Checks.told("soul a 0 5 7;bus k 9 1 1 3;law turn " + e + ";");
        CHECKS.due(e, x.law(1, 0, 0), want);
    }

    // ---- a minute ----

    private static void states() {
        CHECKS.says("A SOUL isn't there yet (0), WAITS (1), is GONE (2) or walked OFF (3)");
        HeavenStop x = Checks.told("soul a 3 0 0;soul b 3 0 0;bus k 5 30 1 0;");
        x.go(3);
        CHECKS.due("not yet at 3", Checks.soul(x, 0, 0), 0);
        x.go(1);
        CHECKS.due("waits at 4", Checks.soul(x, 0, 0), 1);
        x.go(1);
        CHECKS.due("waits at 5", Checks.soul(x, 0, 0), 1);
        x.go(1);
        CHECKS.due("gone at 6", Checks.soul(x, 0, 0), 2);
        CHECKS.due("the other one waits", Checks.soul(x, 1, 0), 1);
        x.off(1);
        CHECKS.due("off", Checks.soul(x, 1, 0), 3);
        x.go(100);
        CHECKS.due("gone for ever", Checks.soul(x, 0, 0), 2);
        CHECKS.due("off for ever", Checks.soul(x, 1, 0), 3);
    }

    private static void comingByNumbers() {
        CHECKS.says("by numbers each SOUL who DIED at this MINUTE and isn't there yet comes to the end of the QUEUE");
        HeavenStop x = Checks.told(souls(8, "99 0 0"));
        x.go(99);
        CHECKS.row("nobody ahead of 99", Checks.queue(x));
        x.go(1);
        CHECKS.row("all eight", Checks.queue(x), 0, 1, 2, 3, 4, 5, 6, 7);
        x.off(3);
        x.go(200);
        CHECKS.row("nobody comes twice", Checks.queue(x), 0, 1, 2, 4, 5, 6, 7);
        x = Checks.told("soul a 1 0 0;soul b 0 0 0;soul c 1 0 0;soul d 0 0 0;soul e 2 0 0;");
        x.go(1);
        CHECKS.row("of minute 0", Checks.queue(x), 1, 3);
        x.move(1, 1);
        x.go(1);
        CHECKS.row("of minute 1, to the end", Checks.queue(x), 3, 1, 0, 2);
        x.go(1);
        CHECKS.row("of minute 2", Checks.queue(x), 3, 1, 0, 2, 4);
    }

    private static void busComes() {
        CHECKS.says("each BUS that comes at this MINUTE (the first time, and EVERY so many from then on)");
        HeavenStop x = Checks.told(souls(8, "0 0 0") + "bus k 4 3 1 0;");
        int[] gone = {0, 0, 0, 0, 1, 1, 1, 2, 2, 2, 3, 3, 3, 4};
        for (int minute = 0; minute < gone.length; minute++) {
            x.go(1);
            CHECKS.due("behind minute " + minute, x.count(6), gone[minute]);
        }
        x = Checks.told(souls(8, "0 0 0") + "bus k 0 1 1 0;");
        for (int minute = 0; minute < 8; minute++) {
            x.go(1);
            CHECKS.due("behind minute " + minute, x.count(6), minute + 1);
        }
        x = Checks.told(souls(8, "0 0 0") + "bus k 99 30 1 0;");
        int[] at = {99, 100, 129, 130, 159};
        int[] then = {0, 1, 1, 2, 2};
        for (int i = 0; i < at.length; i++) {
            x.go(at[i] - x.count(4));
            CHECKS.due("at " + at[i], x.count(6), then[i]);
        }
    }

    private static void busesByNumbers() {
        CHECKS.says("by numbers each BUS");
        HeavenStop x = Checks.told(souls(8, "0 0 9") + "bus a 0 1 1 1;bus b 0 1 2 2;bus c 0 1 3 3;bus d 0 1 1 4;");
        x.go(1);
        int[] buses = {0, 1, 1, 2, 2, 2, 3, -2};
        int[] coins = {8, 7, 7, 6, 6, 6, 5, 9};
        int[] passed = {0, 1, 1, 2, 2, 2, 3, 4};
        for (int i = 0; i < 8; i++) {
            CHECKS.due("bus of " + i, Checks.soul(x, i, 6), buses[i]);
            CHECKS.due("coins of " + i, Checks.soul(x, i, 2), coins[i]);
            CHECKS.due("passed " + i, Checks.soul(x, i, 5), passed[i]);
        }
    }

    private static void turnCut() {
        CHECKS.says("TURN of each who WAITS is E of turn (-9999 .. 9999)");
        // Alike, the first one goes; not alike, the least one.
        String above = "law turn 9998+kind;";
        CHECKS.due("9998, 9998", firstOf(0, 0, above), 0);
        CHECKS.due("9999, 9998", firstOf(1, 0, above), 1);
        CHECKS.due("10000, 9998", firstOf(2, 0, above), 1);
        CHECKS.due("10000, 9999", firstOf(2, 1, above), 0);
        CHECKS.due("10001, 10000", firstOf(3, 2, above), 0);
        String below = "law turn 0-9998-kind;";
        CHECKS.due("-9998, -9998", firstOf(0, 0, below), 0);
        CHECKS.due("-9998, -9999", firstOf(0, 1, below), 1);
        CHECKS.due("-9998, -10000", firstOf(0, 2, below), 1);
        CHECKS.due("-9999, -10000", firstOf(1, 2, below), 0);
        CHECKS.due("-10000, -10001", firstOf(2, 3, below), 0);
        // Beyond an int: 2 to the 32 and one more is not 1, nor below 0.
        String far = "law turn (256*256*256*256+1)*(kind=1)+2*(kind=2);";
        CHECKS.due("4294967297, 2", firstOf(1, 2, far), 1);
        CHECKS.due("2, 4294967297", firstOf(2, 1, far), 0);
        CHECKS.due("-4294967297, 0", firstOf(0, 1, "law turn 0-(256*256*256*256+1)*(kind=1);"), 1);
        CHECKS.due("2147483648, 0", firstOf(1, 0, "law turn 256*256*256*128*(kind=1);"), 1);
    }

    private static void turnWithout() {
        CHECKS.says("TURN .. 0 without");
        CHECKS.due("the least place", firstOf(0, 99, ""), 0);
        CHECKS.due("the least place", firstOf(99, 0, ""), 0);
        HeavenStop x = Checks.told("soul a 0 1 0;soul b 0 9 0;bus k 2 1 1 0;");
        x.go(1);
        x.move(1, 0);
        x.go(2);
        CHECKS.due("b was at place 0", Checks.soul(x, 1, 0), 2);
    }

    private static void turnWithAnError() {
        CHECKS.says("TURN .. 0 with an ERROR");
        // kind 0 is an ERROR; kind 4, 5, 6 are -1, 0, 1.
        String law = "law turn (kind-5)/(kind>0);";
        CHECKS.due("error, -1", firstOf(0, 4, law), 1);
        CHECKS.due("error, 0", firstOf(0, 5, law), 0);
        CHECKS.due("error, 1", firstOf(0, 6, law), 0);
        CHECKS.due("-1, error", firstOf(4, 0, law), 0);
        CHECKS.due("0, error", firstOf(5, 0, law), 0);
        CHECKS.due("1, error", firstOf(6, 0, law), 1);
    }

    private static void mayIsNotZero() {
        CHECKS.says("whether each MAY get on: E of may isn't 0");
        String law = "law may kind-5;";
        CHECKS.due("-1", getsOn(4, 0, law), true);
        CHECKS.due("0", getsOn(5, 99, law), false);
        CHECKS.due("1", getsOn(6, 0, law), true);
        CHECKS.due("2", getsOn(7, 0, law), true);
        // 2 to the 32, whose lower bits are 0, isn't 0.
        CHECKS.due("4294967296", getsOn(0, 0, "law may 256*256*256*256;"), true);
        CHECKS.due("10 to the 12", getsOn(0, 0, "law may 1000*1000*1000*1000;"), true);
    }

    private static void mayWithout() {
        CHECKS.says("(COINS are no less than FARE without)");
        CHECKS.due("4 for 5", getsOn(0, 4, ""), false);
        CHECKS.due("5 for 5", getsOn(0, 5, ""), true);
        CHECKS.due("6 for 5", getsOn(0, 6, ""), true);
        CHECKS.due("0 for 5", getsOn(9, 0, ""), false);
        HeavenStop x = Checks.told("soul a 0 0 0;soul b 0 0 98;soul c 0 0 99;bus k 0 30 8 99;bus l 1 30 8 0;");
        x.go(1);
        CHECKS.row("98 for 99", Checks.queue(x), 0, 1);
        x.go(1);
        CHECKS.row("0 for 0", Checks.queue(x));
    }

    private static void mayWithAnError() {
        CHECKS.says("(COINS are no less than FARE with an ERROR)");
        // kind 0 is an ERROR, kind 1 is 0, kind 2 is 1.
        String law = "law may (kind-1)/(kind>0);";
        CHECKS.due("error, 4 for 5", getsOn(0, 4, law), false);
        CHECKS.due("error, 5 for 5", getsOn(0, 5, law), true);
        CHECKS.due("error, 6 for 5", getsOn(0, 6, law), true);
        CHECKS.due("0, 6 for 5", getsOn(1, 6, law), false);
        CHECKS.due("1, 4 for 5", getsOn(2, 4, law), true);
        String large = "law may 1000*1000*1000*1000+kind;";
        CHECKS.due("10 to the 12, 4 for 5", getsOn(0, 4, large), true);
        CHECKS.due("more than that, 4 for 5", getsOn(1, 4, large), false);
        CHECKS.due("more than that, 5 for 5", getsOn(1, 5, large), true);
    }

    private static void aheadOfAnyone() {
        CHECKS.says("both ahead of anyone");
        // a goes; b, who is at place 0 then, still may not.
        HeavenStop x = Checks.told("soul a 0 0 0;soul b 0 0 0;soul c 0 0 0;bus k 0 1 8 0;law may place<>1;");
        x.go(1);
        CHECKS.row("b was at place 1", Checks.queue(x), 1);
        x.go(1);
        CHECKS.row("b is at place 0 for the next bus", Checks.queue(x));
        // Turns 0, 9, 5: b keeps 9 when it is at place 0.
        x = Checks.told("soul a 0 0 0;soul b 0 0 0;soul c 0 0 0;bus k 0 1 2 0;law turn (place=1)*9+(place=2)*5;");
        x.go(1);
        CHECKS.row("c ahead of b", Checks.queue(x), 1);
        // Of each bus anew.
        x = Checks.told("soul a 0 0 0;soul b 0 0 0;soul c 0 0 0;bus k 0 1 8 0;bus l 0 1 8 0;law may place=0;");
        x.go(1);
        CHECKS.row("a, then b", Checks.queue(x), 2);
        CHECKS.due("b with the second bus", Checks.soul(x, 1, 6), 1);
    }

    private static void asLongAsThereIsRoom() {
        CHECKS.says("as long as there is ROOM");
        for (int room = 1; room <= 8; room++) {
            for (int many = Math.max(1, room - 1); many <= Math.min(8, room + 1); many++) {
                HeavenStop x = Checks.told(souls(many, "0 1 0") + "bus k 0 30 " + room + " 0;");
                x.go(1);
                String what = many + " for a room of " + room;
                CHECKS.due(what + ": gone", x.count(6), Math.min(many, room));
                CHECKS.due(what + ": waits", x.count(5), Math.max(0, many - room));
                CHECKS.due(what + ": passed", x.count(10), Math.max(0, many - room));
            }
        }
    }

    private static void letsOneWhoWaitsAndMay() {
        CHECKS.says("LET nobody who WAITS and MAY still");
        String a = "soul a 0 0 5;";
        HeavenStop x = Checks.told(a + "soul b 0 0 5;bus k 1 1 1 5;lets a b;");
        x.go(2);
        CHECKS.row("b waits and may", Checks.queue(x), 0);
        x.go(1);
        CHECKS.row("b is gone", Checks.queue(x));
        x = Checks.told(a + "soul b 0 0 4;bus k 1 1 1 5;lets a b;");
        x.go(2);
        CHECKS.row("b waits, but may not", Checks.queue(x), 1);
        x = Checks.told(a + "soul b 2 0 5;bus k 1 1 1 5;lets a b;");
        x.go(2);
        CHECKS.due("b isn't there yet", Checks.soul(x, 0, 0), 2);
        x = Checks.told(a + "soul b 1 0 5;bus k 1 1 1 5;lets a b;");
        x.go(2);
        CHECKS.row("b came in the bus's minute", Checks.queue(x), 0);
        x = Checks.told(a + "soul b 0 0 5;bus k 1 1 1 5;lets a b;");
        x.go(1);
        x.off(1);
        x.go(1);
        CHECKS.due("b is off", Checks.soul(x, 0, 0), 2);
        x = Checks.told(a + "soul b 0 0 5;bus k 1 1 2 5;lets a b;");
        x.go(2);
        CHECKS.row("b got on, so a lets nobody still", Checks.queue(x));
        CHECKS.due("together", Checks.soul(x, 0, 7), 3);
        // Whom one lets counts for more than whose turn it is.
        x = Checks.told("soul a 0 0 5;soul b 0 9 5;bus k 1 1 1 5;lets a b;law turn kind;");
        x.go(2);
        CHECKS.row("a lets b in spite of its turn", Checks.queue(x), 0);
        // A ring of eight: nobody goes, and there is room, so nobody is passed.
        x = Checks.told(souls(8, "0 0 0") + "bus k 0 1 8 0;lets a b;lets b c;lets c d;lets d e;lets e f;lets f g;"
            + "lets g h;lets h a;");
        x.go(9);
        CHECKS.due("all wait", x.count(5), 8);
        CHECKS.due("nobody is passed", x.count(10), 0);
        x.off(7);
        x.go(1);
        CHECKS.due("seven go, the last one first", x.count(6), 7);
    }

    private static void leastTurnLeastPlace() {
        CHECKS.says("that one gets on whose TURN is least, of several the one whose PLACE is least");
        CHECKS.due("4, 5", firstOf(4, 5, "law turn kind;"), 0);
        CHECKS.due("5, 5", firstOf(5, 5, "law turn kind;"), 0);
        CHECKS.due("6, 5", firstOf(6, 5, "law turn kind;"), 1);
        HeavenStop x = Checks.told("soul a 0 7 0;soul b 0 7 0;soul c 0 7 0;soul d 0 8 0;bus k 2 1 1 0;law turn kind;");
        x.go(1);
        x.move(2, 0);
        x.move(3, 0);
        CHECKS.row("d c a b", Checks.queue(x), 3, 2, 0, 1);
        x.go(2);
        CHECKS.row("c, by its place, not its number", Checks.queue(x), 3, 0, 1);
        x.go(1);
        CHECKS.row("a", Checks.queue(x), 3, 1);
        x.go(1);
        CHECKS.row("b", Checks.queue(x), 3);
    }

    private static void coinsLessByFare() {
        CHECKS.says("COINS less by FARE, 0 at least");
        HeavenStop x = Checks.told("soul a 0 0 4;soul b 0 0 5;soul c 0 0 6;soul d 0 0 0;bus k 0 30 8 5;law may 1;");
        x.go(1);
        int[] coins = {0, 0, 1, 0};
        for (int i = 0; i < 4; i++) {
            CHECKS.due("coins of " + i, Checks.soul(x, i, 2), coins[i]);
        }
        x = Checks.told("soul a 0 0 99;bus k 0 30 8 99;");
        x.go(1);
        CHECKS.due("99 less 99", Checks.soul(x, 0, 2), 0);
        x = Checks.told("soul a 0 0 99;bus k 0 30 8 0;");
        x.go(1);
        CHECKS.due("99 less 0", Checks.soul(x, 0, 2), 99);
    }

    private static void movesUp() {
        CHECKS.says("who stood behind moves up");
        HeavenStop x = Checks.told(souls(8, "0 0 0") + "bus k 1 1 1 0;law turn place<>3;");
        x.go(2);
        CHECKS.row("d is gone", Checks.queue(x), 0, 1, 2, 4, 5, 6, 7);
        for (int place = 0; place < 7; place++) {
            CHECKS.due("place", Checks.soul(x, (int) Checks.queue(x)[place], 4), place);
        }
        CHECKS.due("nobody is at the last place", x.queue(7), -2);
    }

    private static void passed() {
        CHECKS.says("Who WAITS and MAY when there is no more ROOM is PASSED: once more");
        HeavenStop x = Checks.told("soul a 0 0 5;soul b 0 0 5;soul c 0 0 4;soul d 9 0 5;bus k 1 1 1 5;law turn 0-place;");
        x.go(2);
        int[] once = {1, 0, 0, 0};
        for (int i = 0; i < 4; i++) {
            CHECKS.due("passed " + i, Checks.soul(x, i, 5), once[i]);
        }
        // The bus is exactly full: nobody who may is left.
        x = Checks.told("soul a 0 0 5;soul b 0 0 4;bus k 0 1 1 5;");
        x.go(5);
        CHECKS.due("nobody who may is left", x.count(10), 0);
        // Passed minute by minute, and by each bus.
        x = Checks.told("soul a 0 0 5;soul b 0 0 5;soul c 0 0 5;soul d 0 0 5;bus k 0 1 1 5;");
        for (int minute = 1; minute <= 4; minute++) {
            x.go(1);
            for (int i = 0; i < 4; i++) {
                CHECKS.due("passed " + i + " behind " + minute, Checks.soul(x, i, 5), Math.min(i, minute));
            }
        }
        // Two who let one another: passed only if a third one took the last room.
        String ring = "soul a 0 0 5;soul b 0 0 5;soul c 0 0 5;lets a b;lets b a;bus k 0 30 ";
        x = Checks.told(ring + "1 0;");
        x.go(1);
        CHECKS.due("no more room", x.count(10), 2);
        x = Checks.told(ring + "2 0;");
        x.go(1);
        CHECKS.due("still room", x.count(10), 0);
    }

    // ---- rain ----

    /** The seed from 0 on whose first number modulo 100 is so much. */
    private static int seedFor(int hundredth) {
        for (int seed = 0; seed < 100000; seed++) {
            long number = (seed * 1103515245L + 12345L) % 2147483648L / 65536L;
            if (number % 100 == hundredth) {
                return seed;
            }
        }
        throw new IllegalStateException("no seed for " + hundredth);
    }

    private static boolean rainsBy(int hundredth, int rain) {
        HeavenStop x = Checks.told("soul a 0 0 0;seats 0;rain " + rain + ";seed " + seedFor(hundredth) + ";");
        x.go(1);
        return Checks.soul(x, 0, 3) == 1;
    }

    private static void rainBelow() {
        CHECKS.says("rain: a number modulo 100 below rain");
        for (int rain : new int[] {1, 2, 37, 49, 50, 51, 98, 99}) {
            CHECKS.due((rain - 1) + " below " + rain, rainsBy(rain - 1, rain), true);
            CHECKS.due(rain + " below " + rain, rainsBy(rain, rain), false);
            if (rain < 99) {
                CHECKS.due((rain + 1) + " below " + rain, rainsBy(rain + 1, rain), false);
            }
        }
    }

    private static void noNumber() {
        CHECKS.says("(no number, if rain is 0 or 100)");
        CHECKS.due("0 by 0", rainsBy(0, 0), false);
        CHECKS.due("0 by 1", rainsBy(0, 1), true);
        CHECKS.due("99 by 99", rainsBy(99, 99), false);
        CHECKS.due("99 by 100", rainsBy(99, 100), true);
        HeavenStop x = Checks.told("soul a 0 0 0;seats 0;rain 100;seed 1;");
        x.go(150);
        CHECKS.due("100: always", Checks.soul(x, 0, 3), 150);
        x = Checks.told("soul a 0 0 0;seats 0;rain 0;seed 0;");
        x.go(150);
        CHECKS.due("0: never", Checks.soul(x, 0, 3), 0);
    }

    private static void fromSeatsOn() {
        CHECKS.says("by PLACES from seats on each who WAITS is more WET");
        for (int seats = 0; seats <= 8; seats++) {
            HeavenStop x = Checks.told(souls(8, "0 0 0") + "rain 100;seats " + seats + ";");
            x.go(1);
            for (int i = 0; i < 8; i++) {
                CHECKS.due(seats + " seats, place " + i, Checks.soul(x, i, 3), i < seats ? 0 : 1);
            }
        }
        // Two seats without.
        HeavenStop x = Checks.told(souls(3, "0 0 0") + "rain 100;");
        x.go(1);
        CHECKS.due("place 1", Checks.soul(x, 1, 3), 0);
        CHECKS.due("place 2", Checks.soul(x, 2, 3), 1);
    }

    private static void soakCut() {
        CHECKS.says("E of soak (0 .. 99)");
        String low = "law soak kind-1;";
        CHECKS.due("-1", wet(0, 1, low), 0);
        CHECKS.due("0", wet(1, 1, low), 0);
        CHECKS.due("1", wet(2, 1, low), 1);
        String high = "law soak kind+90;";
        CHECKS.due("98", wet(8, 1, high), 98);
        CHECKS.due("99", wet(9, 1, high), 99);
        CHECKS.due("100", wet(10, 1, high), 99);
        CHECKS.due("101", wet(11, 1, high), 99);
        CHECKS.due("10 to the 12", wet(0, 1, "law soak 1000*1000*1000*1000;"), 99);
        CHECKS.due("less than 0 by that", wet(0, 1, "law soak 0-1000*1000*1000*1000;"), 0);
        CHECKS.due("4294967297", wet(0, 1, "law soak 256*256*256*256+1;"), 99);
        CHECKS.due("-4294967295", wet(0, 1, "law soak 1-256*256*256*256;"), 0);
        // Nobody becomes less wet.
        HeavenStop x = Checks.told("soul a 0 0 0;rain 100;seats 0;law soak (minute<2)*9-5;");
        x.go(1);
        CHECKS.due("4", Checks.soul(x, 0, 3), 4);
        x.go(4);
        CHECKS.due("8 still", Checks.soul(x, 0, 3), 8);
    }

    private static void soakWithout() {
        CHECKS.says("E of soak (1 without, with an ERROR)");
        CHECKS.due("without", wet(0, 1, ""), 1);
        CHECKS.due("without, two minutes", wet(0, 2, ""), 2);
        CHECKS.due("with an error", wet(0, 1, "law soak 9/kind;"), 1);
        CHECKS.due("without an error", wet(3, 1, "law soak 9/kind;"), 3);
        CHECKS.due("0 is no error", wet(10, 1, "law soak 9/kind;"), 0);
        CHECKS.due("too much is an error", wet(1, 1, "law soak 1000*1000*1000*1000+kind;"), 1);
        CHECKS.due("too little is an error", wet(1, 1, "law soak 0-1000*1000*1000*1000-kind;"), 1);
    }

    private static void wetAtMost() {
        CHECKS.says("999 at most");
        String law = "law soak kind;";
        CHECKS.due("499 times 2", wet(2, 499, law), 998);
        CHECKS.due("500 times 2", wet(2, 500, law), 999);
        CHECKS.due("27 times 37", wet(37, 27, law), 999);
        CHECKS.due("28 times 37", wet(37, 28, law), 999);
        CHECKS.due("998 times 1", wet(1, 998, law), 998);
        CHECKS.due("999 times 1", wet(1, 999, law), 999);
        CHECKS.due("1000 times 1", wet(1, 1000, law), 999);
        CHECKS.due("10 times 99", wet(99, 10, law), 990);
        CHECKS.due("11 times 99", wet(99, 11, law), 999);
        HeavenStop x = Checks.told(souls(8, "0 99 0") + "rain 100;seats 0;law soak kind;");
        x.go(200);
        CHECKS.due("of all eight", x.count(9), 8 * 999);
    }

    // ---- an E ----

    private static void names() {
        CHECKS.says("NAMES, of the SOUL");
        HeavenStop x = Checks.told("soul a 3 99 98;soul b 3 1 2;bus k 50 1 1 97;rain 100;seats 1;"
            + "law may wait;law turn fare*100+place;law soak fare*100+place+5;");
        int[] wait = {-3, -2, -1, 0, 1, 2};
        for (int minute = 0; minute < wait.length; minute++) {
            CHECKS.due("wait at " + minute, x.law(0, 0, 0), wait[minute]);
            // Not there ahead of the minute of his death, nor at its beginning.
            CHECKS.due("place at " + minute, x.law(1, 1, 0), 9700 + (minute <= 3 ? 9 : 1));
            CHECKS.due("soak has no fare at " + minute, x.law(2, 1, 0), minute <= 3 ? 14 : 6);
            x.go(1);
        }
        // At 6: b stood at place 1 in minutes 3, 4, 5.
        CHECKS.due("wet", Checks.soul(x, 1, 3), 18);
        HeavenStop y = Checks.told("soul a 0 99 98;bus k 50 1 1 97;law may kind;law turn coins;law soak minute;");
        CHECKS.due("kind", y.law(0, 0, 0), 99);
        CHECKS.due("coins", y.law(1, 0, 0), 98);
        CHECKS.due("minute", y.law(2, 0, 0), 0);
        y.go(17);
        y.give(0, 1);
        CHECKS.due("coins", y.law(1, 0, 0), 99);
        CHECKS.due("minute", y.law(2, 0, 0), 17);
    }

    private static void cutTowardsZero() {
        CHECKS.says("/ is cut towards 0");
        worth("6/2", 3);
        worth("7/2", 3);
        worth("8/2", 4);
        worth("(0-6)/2", -3);
        worth("(0-7)/2", -3);
        worth("(0-8)/2", -4);
        worth("7/(0-2)", -3);
        worth("(0-7)/(0-2)", 3);
        worth("1/2", 0);
        worth("(0-1)/2", 0);
        worth("1/(0-2)", 0);
        worth("0/5", 0);
        worth("0/(0-5)", 0);
    }

    private static void notZeroIsAsOne() {
        CHECKS.says("comparisons, and, or, not are 1 or 0 (what isn't 0 is as 1)");
        int[] values = {-2, -1, 0, 1, 2};
        for (int a : values) {
            String one = "(" + (a < 0 ? "0-" + -a : "" + a) + ")";
            worth("not" + one, a == 0 ? 1 : 0);
            worth("not not" + one, a == 0 ? 0 : 1);
            for (int b : values) {
                String other = "(" + (b < 0 ? "0-" + -b : "" + b) + ")";
                worth(one + "and" + other, a != 0 && b != 0 ? 1 : 0);
                worth(one + "or" + other, a != 0 || b != 0 ? 1 : 0);
            }
        }
        // 2 to the 32 isn't 0.
        worth("not(256*256*256*256)", 0);
        worth("(256*256*256*256)and 1", 1);
        worth("0 or(256*256*256*256)", 1);
    }

    private static void comparisons() {
        CHECKS.says("comparisons are 1 or 0");
        int[][] pairs = {{4, 5}, {5, 5}, {6, 5}};
        for (int[] pair : pairs) {
            int a = pair[0];
            int b = pair[1];
            worth(a + "<" + b, a < b ? 1 : 0);
            worth(a + "<=" + b, a <= b ? 1 : 0);
            worth(a + "=" + b, a == b ? 1 : 0);
            worth(a + "<>" + b, a != b ? 1 : 0);
            worth(a + ">=" + b, a >= b ? 1 : 0);
            worth(a + ">" + b, a > b ? 1 : 0);
        }
        // As longs: 2 to the 32 and 5 are not 5.
        worth("256*256*256*256+5=5", 0);
        worth("256*256*256*256+5>5", 1);
        worth("0-256*256*256*256+5<5", 1);
        worth("256*256*256*128>0", 1);
    }

    private static void bothSides() {
        CHECKS.says("both sides are worked out");
        worth("1 or 1/0", ERROR);
        worth("1/0 or 1", ERROR);
        worth("0 and 1/0", ERROR);
        worth("1/0 and 0", ERROR);
        worth("1 or 0/1", 1);
        worth("0 and 0/1", 0);
        worth("0*(1/0)", ERROR);
        worth("not(1/0)", ERROR);
        worth("1<1/0", ERROR);
    }

    private static void errorByZero() {
        CHECKS.says("ERROR: / by 0");
        worth("5/1", 5);
        worth("5/0", ERROR);
        worth("5/(0-1)", -5);
        worth("0/0", ERROR);
        worth("5/(1-1)", ERROR);
        worth("5/(1/2)", ERROR);
        worth("5/(2/2)", 5);
    }

    private static void errorTooLarge() {
        CHECKS.says("ERROR: a value above 10 to the 12 or below 0 by more than that");
        String million = "(1000*1000)";
        String most = "(1000*1000*1000*1000)";
        long m = 1000000000000L;
        worth(most, m);
        worth(most + "-1", m - 1);
        worth(most + "+0", m);
        worth(most + "+1", ERROR);
        worth(most + "-1+1", m);
        worth(most + "-1+2", ERROR);
        worth("0-" + most, -m);
        worth("0-" + most + "+1", -m + 1);
        worth("0-" + most + "-0", -m);
        worth("0-" + most + "-1", ERROR);
        worth("1-(0-" + most + ")", ERROR);
        worth("0-(0-" + most + ")", m);
        worth("(0-" + most + ")+(0-1)", ERROR);
        // A million and one times a million less one is one less.
        worth("(1000*1000+1)*(1000*1000-1)", m - 1);
        worth("(1000*1000+1)*" + million, ERROR);
        worth(million + "*(1000*1000+1)", ERROR);
        worth("(0-" + million + ")*" + million, -m);
        worth("(0-" + million + "-1)*" + million, ERROR);
        worth("(0-" + million + ")*(0-" + million + ")", m);
        worth("(0-" + million + ")*(0-" + million + "-1)", ERROR);
        worth(most + "*1", m);
        worth("1*" + most, m);
        worth(most + "*(0-1)", -m);
        worth(most + "*2", ERROR);
        worth("2*" + most, ERROR);
        worth(most + "*0", 0);
        worth("0*" + most, 0);
        worth(most + "/1", m);
        worth(most + "=" + most, 1);
        // What is in between counts, too.
        worth("(" + most + "+1)*0", ERROR);
        worth(most + "+1-1", ERROR);
        worth(most + "*" + most, ERROR);
        // A wrap-around of a long: 2 to the 64 is no 0.
        worth("(256*256*256*256)*(256*256*256*256)", ERROR);
        worth("(0-256*256*256*256)*(256*256*256*256)", ERROR);
        worth("(256*256*256*256)*(256*256*256*128)", ERROR);
    }

    private static void numbersWrapAround() {
        CHECKS.says("Numbers are the last one (at first the seed) times 1103515245 and 12345, without what is above 31 bits");
        // 99999 is the largest seed; by it the first product is beyond 31 bits already.
        for (int seed : new int[] {0, 1, 2, 3, 99998, 99999}) {
            HeavenStop x = Checks.told("soul a 0 0 0;seats 0;rain 50;seed " + seed + ";");
            long last = seed;
            int wet = 0;
            for (int i = 0; i < 40; i++) {
                last = Math.floorMod(last * 1103515245L + 12345L, 1L << 31);
                wet += last / 65536 % 100 < 50 ? 1 : 0;
                x.go(1);
                CHECKS.due("seed " + seed + " behind " + i, Checks.soul(x, 0, 3), wet);
            }
        }
    }

    private static void asItGoes() {
        CHECKS.says("AS IT GOES: without numbers: it rains, if rain is 50 at least");
        int[] rains = {0, 1, 49, 50, 51, 99, 100};
        for (int rain : rains) {
            for (int hundredth : new int[] {0, 99}) {
                HeavenStop x = Checks.told("soul a 0 0 0;seats 0;rain " + rain + ";seed " + seedFor(hundredth) + ";");
                CHECKS.due("rain " + rain, x.ahead(1, 3, 0), rain >= 50 ? 1 : 0);
                CHECKS.due("rain " + rain, x.ahead(200, 3, 0), rain >= 50 ? 200 : 0);
            }
        }
    }

    // ---- promises 6 and 8 ----

    private static void soulNone() {
        CHECKS.says("6: IndexOutOfBoundsException: no such SOUL. NoSuchElementException: no such what");
        HeavenStop x = Checks.told(souls(8, "0 1 2"));
        for (int what = 0; what < 8; what++) {
            int asked = what;
            CHECKS.range("soul", 0, 7, Checks.IOOBE, soul -> Checks.soul(x, soul, asked));
        }
        CHECKS.range("what", 0, 7, Checks.NSEE, what -> Checks.soul(x, 0, what));
        CHECKS.range("what", 0, 7, Checks.NSEE, what -> Checks.soul(x, 7, what));
        CHECKS.due("neither", Checks.soul(x, 8, 8), Checks.IOOBE);
        CHECKS.due("neither", Checks.soul(x, -1, -1), Checks.IOOBE);
        HeavenStop y = Checks.told(souls(1, "0 0 0"));
        CHECKS.due("the first one", Checks.soul(y, 0, 0), 0);
        CHECKS.due("no second one", Checks.soul(y, 1, 0), Checks.IOOBE);
    }

    private static void soulDoesNotWait() {
        CHECKS.says("6: PLACE (-2: he doesn't WAIT), the BUS he is GONE with (-2: he isn't), WITH (0: he isn't GONE)");
        HeavenStop x = Checks.told("soul a 0 0 0;soul b 0 0 0;soul c 0 0 0;soul d 9 0 0;bus z 99 1 1 0;bus k 1 30 1 0;");
        x.go(1);
        CHECKS.due("a's place", Checks.soul(x, 0, 4), 0);
        x.go(1);
        x.off(2);
        int[][] want = {{2, -2, 1, 1}, {1, 0, -2, 0}, {3, -2, -2, 0}, {0, -2, -2, 0}};
        for (int i = 0; i < 4; i++) {
            CHECKS.due("state of " + i, Checks.soul(x, i, 0), want[i][0]);
            CHECKS.due("place of " + i, Checks.soul(x, i, 4), want[i][1]);
            CHECKS.due("bus of " + i, Checks.soul(x, i, 6), want[i][2]);
            CHECKS.due("with " + i, Checks.soul(x, i, 7), want[i][3]);
        }
    }

    private static void soulWith() {
        CHECKS.says("WITH a SOUL: who is GONE by the same BUS in the same MINUTE");
        HeavenStop x = Checks.told(souls(8, "0 0 0") + "bus k 0 30 8 0;");
        x.go(1);
        for (int i = 0; i < 8; i++) {
            CHECKS.due("all eight", Checks.soul(x, i, 7), 255);
        }
        CHECKS.due("gone with it", x.bus(0, 4), 8);
        // The same bus in another minute, another bus in the same minute.
        x = Checks.told(souls(8, "0 0 0") + "bus k 0 1 2 0;bus l 0 1 1 0;");
        x.go(3);
        int[] with = {3, 3, 4, 24, 24, 32, 192, 192};
        for (int i = 0; i < 8; i++) {
            CHECKS.due("with " + i, Checks.soul(x, i, 7), with[i]);
        }
        CHECKS.due("with k", x.bus(0, 4), 6);
        CHECKS.due("with l", x.bus(1, 4), 2);
        CHECKS.due("all are gone", x.count(6), 8);
    }

    private static void queuePlaces() {
        CHECKS.says("8: -2: nobody; NONE: the PLACE is below 0 or above 7");
        HeavenStop x = Checks.told(souls(8, "0 0 0"));
        CHECKS.range("nobody", 0, 7, -1, x::queue);
        CHECKS.due("nobody at 0", x.queue(0), -2);
        CHECKS.due("nobody at 7", x.queue(7), -2);
        x.go(1);
        CHECKS.range("all", 0, 7, -1, x::queue);
        CHECKS.due("at 0", x.queue(0), 0);
        CHECKS.due("at 7", x.queue(7), 7);
        x.off(2);
        CHECKS.due("at 6", x.queue(6), 7);
        CHECKS.due("nobody at 7", x.queue(7), -2);
    }

    // ---- promise 10 ----

    private static void lawNone() {
        CHECKS.says("10: Long.MIN_VALUE: an ERROR, no such law, no such ones");
        String all = souls(8, "0 1 2") + "bus a 9 1 1 0;bus b 9 1 1 0;bus c 9 1 1 0;bus d 9 1 1 0;";
        HeavenStop x = Checks.told(all + "law may 1;law turn 2;law soak 3;");
        CHECKS.range("what", 0, 2, ERROR, what -> x.law(what, 0, 0));
        CHECKS.range("what", 0, 2, ERROR, what -> x.law(what, 7, 3));
        for (int what = 0; what < 3; what++) {
            int asked = what;
            CHECKS.range("soul of law " + what, 0, 7, ERROR, soul -> x.law(asked, soul, 3));
            CHECKS.due("law " + what, x.law(what, 7, 3), what + 1);
        }
        CHECKS.range("bus of may", 0, 3, ERROR, bus -> x.law(0, 7, bus));
        CHECKS.range("bus of turn", 0, 3, ERROR, bus -> x.law(1, 7, bus));
        for (int bus : new int[] {Integer.MIN_VALUE, -1, 0, 3, 4, Integer.MAX_VALUE}) {
            CHECKS.due("soak: the bus isn't looked at", x.law(2, 7, bus), 3);
        }
        for (int law = 0; law < 3; law++) {
            String[] rules = {"may", "turn", "soak"};
            HeavenStop y = Checks.told(all + "law " + rules[law] + " 0;");
            for (int what = 0; what < 3; what++) {
                CHECKS.due(rules[law] + " alone: law " + what, y.law(what, 0, 0), what == law ? 0 : ERROR);
            }
        }
        HeavenStop y = Checks.told("soul a 0 3 4;law may 1;law turn 1;law soak kind/coins;");
        CHECKS.due("no bus: may", y.law(0, 0, 0), ERROR);
        CHECKS.due("no bus: turn", y.law(1, 0, 0), ERROR);
        CHECKS.due("no bus: soak", y.law(2, 0, 0), 0);
        y = Checks.told("soul a 0 3 0;law soak kind/coins;");
        CHECKS.due("an error", y.law(2, 0, 0), ERROR);
        y.give(0, 1);
        CHECKS.due("no error any more", y.law(2, 0, 0), 3);
        // E itself, not what a minute makes of it.
        y = Checks.told("soul a 0 3 0;bus k 9 1 1 0;law may 0-7;law turn 9999+1;law soak 100;");
        CHECKS.due("-7", y.law(0, 0, 0), -7);
        CHECKS.due("10000", y.law(1, 0, 0), 10000);
        CHECKS.due("100", y.law(2, 0, 0), 100);
    }

    private static void lawPlaceNine() {
        CHECKS.says("10: PLACE 9 of one who doesn't WAIT");
        HeavenStop x = Checks.told(souls(8, "0 0 0") + "law soak place;");
        CHECKS.due("not there yet", x.law(2, 7, 0), 9);
        x.go(1);
        for (int i = 0; i < 8; i++) {
            CHECKS.due("place " + i, x.law(2, i, 0), i);
        }
        x.off(0);
        CHECKS.due("off", x.law(2, 0, 0), 9);
        CHECKS.due("moved up", x.law(2, 7, 0), 6);
        x = Checks.told("soul a 0 0 0;bus k 1 1 1 0;law soak place;");
        x.go(1);
        CHECKS.due("waits", x.law(2, 0, 0), 0);
        x.go(1);
        CHECKS.due("gone", x.law(2, 0, 0), 9);
    }

    // ---- promises 11 to 14 ----

    private static void moveRefused() {
        CHECKS.says("11: false: no such ones, he doesn't WAIT, he is there, nobody WAITS so far behind");
        HeavenStop x = Checks.told("soul a 0 0 9;soul b 0 0 9;soul c 0 0 9;soul d 9 0 9;soul e 0 0 9;soul f 0 0 9;"
            + "bus k 0 30 1 0;");
        x.go(1);
        x.off(5);
        CHECKS.row("a is gone, f is off", Checks.queue(x), 1, 2, 4);
        for (int soul : new int[] {Integer.MIN_VALUE, -1, 6, Integer.MAX_VALUE}) {
            CHECKS.due("no soul " + soul, x.move(soul, 0), false);
        }
        for (int place : new int[] {Integer.MIN_VALUE, -1, 3, 7, 8, Integer.MAX_VALUE}) {
            CHECKS.due("place " + place, x.move(1, place), false);
        }
        CHECKS.due("not there yet", x.move(3, 0), false);
        CHECKS.due("gone", x.move(0, 1), false);
        CHECKS.due("off", x.move(5, 1), false);
        CHECKS.due("b is at 0", x.move(1, 0), false);
        CHECKS.due("c is at 1", x.move(2, 1), false);
        CHECKS.due("e is at 2", x.move(4, 2), false);
        CHECKS.row("all stand as they did", Checks.queue(x), 1, 2, 4);
        CHECKS.due("none can be undone but off", x.count(13), 1);
        CHECKS.due("the last place", x.move(1, 2), true);
        CHECKS.row("c e b", Checks.queue(x), 2, 4, 1);
        CHECKS.due("two can be undone", x.count(13), 2);
    }

    private static void moveAtTheEnds() {
        CHECKS.says("11: A SOUL who WAITS moves to a PLACE of the QUEUE; the others stay in their row");
        HeavenStop x = Checks.told(souls(8, "0 0 0"));
        x.go(1);
        CHECKS.due("8", x.move(0, 8), false);
        CHECKS.due("first to the end", x.move(0, 7), true);
        CHECKS.row("a is last", Checks.queue(x), 1, 2, 3, 4, 5, 6, 7, 0);
        CHECKS.due("last to the front", x.move(0, 0), true);
        CHECKS.row("a is first", Checks.queue(x), 0, 1, 2, 3, 4, 5, 6, 7);
        CHECKS.due("one behind", x.move(3, 4), true);
        CHECKS.row("d behind e", Checks.queue(x), 0, 1, 2, 4, 3, 5, 6, 7);
        CHECKS.due("one ahead", x.move(3, 3), true);
        CHECKS.row("d ahead of e", Checks.queue(x), 0, 1, 2, 3, 4, 5, 6, 7);
        HeavenStop y = Checks.told("soul a 0 0 0;");
        y.go(1);
        CHECKS.due("alone: he is there", y.move(0, 0), false);
        CHECKS.due("alone: nobody is behind", y.move(0, 1), false);
    }

    private static void giveCoins() {
        CHECKS.says("12: gets so many COINS 1 .. 99, 99 at most then: COINS");
        int[] has = {0, 1, 97, 98, 99};
        int[] more = {1, 2, 98, 99};
        for (int coins : has) {
            for (int given : more) {
                HeavenStop x = Checks.told("soul a 5 0 " + coins + ";");
                CHECKS.due(given + " to " + coins, x.give(0, given), Math.min(99, coins + given));
                CHECKS.due(given + " to " + coins, Checks.soul(x, 0, 2), Math.min(99, coins + given));
                CHECKS.due("can be undone", x.count(13), 1);
            }
        }
        HeavenStop x = Checks.told("soul a 5 0 7;");
        for (int given : new int[] {Integer.MIN_VALUE, -1, 0, 100, Integer.MAX_VALUE}) {
            CHECKS.due("give " + given, x.give(0, given), -1);
        }
        CHECKS.due("coins stay", Checks.soul(x, 0, 2), 7);
        CHECKS.due("nothing to undo", x.count(13), 0);
    }

    private static void giveRefused() {
        CHECKS.says("12: NONE: no such ones, GONE, OFF");
        HeavenStop x = Checks.told("soul a 0 0 9;soul b 0 0 9;soul c 0 0 9;soul d 9 0 9;bus k 0 30 1 0;");
        x.go(1);
        x.off(1);
        for (int soul : new int[] {Integer.MIN_VALUE, -1, 4, Integer.MAX_VALUE}) {
            CHECKS.due("no soul " + soul, x.give(soul, 1), -1);
        }
        CHECKS.due("gone", x.give(0, 1), -1);
        CHECKS.due("off", x.give(1, 1), -1);
        CHECKS.due("gone: coins stay", Checks.soul(x, 0, 2), 9);
        CHECKS.due("off: coins stay", Checks.soul(x, 1, 2), 9);
        CHECKS.due("only off can be undone", x.count(13), 1);
        CHECKS.due("waits", x.give(2, 1), 10);
        CHECKS.due("isn't there yet", x.give(3, 1), 10);
        HeavenStop y = Checks.told(souls(8, "0 0 0"));
        CHECKS.due("the last one", y.give(7, 99), 99);
        CHECKS.due("none behind", y.give(8, 99), -1);
    }

    private static void offRefused() {
        CHECKS.says("13: how many WAIT; NONE: no such SOUL, he doesn't WAIT");
        HeavenStop x = Checks.told("soul a 0 0 9;soul b 0 0 9;soul c 0 0 9;soul d 9 0 9;bus k 0 30 1 0;");
        CHECKS.due("not there yet", x.off(0), -1);
        x.go(1);
        for (int soul : new int[] {Integer.MIN_VALUE, -1, 4, Integer.MAX_VALUE}) {
            CHECKS.due("no soul " + soul, x.off(soul), -1);
        }
        CHECKS.due("gone", x.off(0), -1);
        CHECKS.due("not there yet", x.off(3), -1);
        CHECKS.due("nothing to undo", x.count(13), 0);
        CHECKS.due("the last of two", x.off(2), 1);
        CHECKS.due("twice", x.off(2), -1);
        CHECKS.due("the last one of all", x.off(1), 0);
        CHECKS.due("nobody is at 0", x.queue(0), -2);
        CHECKS.due("two can be undone", x.count(13), 2);
        HeavenStop y = Checks.told(souls(8, "0 0 0"));
        y.go(1);
        CHECKS.due("first of eight", y.off(0), 7);
        CHECKS.due("last of seven", y.off(7), 6);
        CHECKS.row("six", Checks.queue(y), 1, 2, 3, 4, 5, 6);
    }

    private static void goMinutes() {
        CHECKS.says("14: So many MINUTES (0 .. 200) go by: which one it is; NONE, and none does: no such number");
        HeavenStop x = Checks.told("soul a 0 0 0;seats 0;rain 100;");
        x.give(0, 1);
        for (int n : new int[] {Integer.MIN_VALUE, -1, 201, Integer.MAX_VALUE}) {
            CHECKS.due("go " + n, x.go(n), -1);
            CHECKS.due("none went by", x.count(4), 0);
            CHECKS.due("nobody came", x.count(5), 0);
            CHECKS.due("what can be undone stays", x.count(13), 1);
        }
        CHECKS.due("0", x.go(0), 0);
        CHECKS.due("nobody came", x.count(5), 0);
        CHECKS.due("1", x.go(1), 1);
        CHECKS.due("199", x.go(199), 200);
        CHECKS.due("200", x.go(200), 400);
        CHECKS.due("wet all the time", Checks.soul(x, 0, 3), 400);
    }

    private static void goBehind() {
        CHECKS.says("14: NONE, and none does: behind 9800");
        HeavenStop x = Checks.told("soul a 0 0 0;soul b 0 0 0;bus k 0 30 1 99;rain 100;seats 1;");
        for (int i = 1; i <= 48; i++) {
            x.go(200);
        }
        CHECKS.due("9600", x.go(0), 9600);
        x.keep();
        CHECKS.due("9800", x.go(200), 9800);
        CHECKS.due("0 more", x.go(0), 9800);
        CHECKS.due("1 more", x.go(1), -1);
        CHECKS.due("200 more", x.go(200), -1);
        CHECKS.due("still 9800", x.count(4), 9800);
        x.back();
        CHECKS.due("9799", x.go(199), 9799);
        x.give(0, 1);
        CHECKS.due("2 more", x.go(2), -1);
        CHECKS.due("still 9799", x.count(4), 9799);
        CHECKS.due("what can be undone stays", x.count(13), 1);
        CHECKS.due("1 more", x.go(1), 9800);
        // What is asked of later minutes is answered all the same.
        CHECKS.due("ahead", x.ahead(200, 4, 0), 2);
        // 9810 is the next one of 0, 30, 60 ..
        CHECKS.due("next", x.next(0), 10);
        CHECKS.due("goes", x.goes(0), -2);
        x.give(0, 99);
        CHECKS.due("goes in minute 9810", x.goes(0), 11);
        CHECKS.due("tried", x.tried(5, 0, 200), 2);
        Checks.tell(x, "soul a 0 0 0;");
        CHECKS.due("a text begins anew", x.go(1), 1);
    }
}
