/** Promises 27 to 31: see, strike, known, everies, ask. */
public final class SeenTest {
    private static final Checks CHECKS = new Checks();
    private static final int ALL = (1 << 30) - 1;
    private static final String STOP = "soul a 0 5 3;soul b 0 9 3;soul c 4 1 3;bus k 2 3 1 1;bus l 40 7 8 0;";

    public static void main(String[] args) {
        seeing();
        striking();
        knowing();
        everies();
        fromTheTextOn();
        asking();
        CHECKS.end("SeenTest");
    }

    private static void seeing() {
        HeavenStop x = Checks.told(STOP);
        CHECKS.due("0 minutes", x.see(0, 0, true), -1);
        CHECKS.due("61 minutes", x.see(61, 0, true), -1);
        CHECKS.due("no such soul", x.see(1, 3, true), -1);
        CHECKS.due("no such soul", x.see(1, -1, false), -1);
        CHECKS.due("strike nothing", x.strike(0), -1);
        for (int i = 0; i < 23; i++) {
            CHECKS.due("see " + i, x.see(i % 2 == 0 ? 1 : 60, i % 3, false), i);
        }
        CHECKS.due("no such one", x.strike(23), -1);
        CHECKS.due("no such one", x.strike(-1), -1);
        CHECKS.due("the last one", x.strike(22), 23);
        CHECKS.due("there are 24", x.see(1, 0, true), -1);
        CHECKS.due("there are 24", x.strike(0), -1);
        CHECKS.due("24", x.count(11), 24);
    }

    private static void striking() {
        HeavenStop x = Checks.told(STOP);
        // b is gone behind 4 minutes only if k comes in each minute.
        CHECKS.due("0", x.see(4, 1, true), 0);
        CHECKS.due("every minute", x.everies(0), 1);
        CHECKS.due("1 strikes 0", x.strike(0), 1);
        CHECKS.due("struck", x.everies(0), ALL);
        CHECKS.due("2 strikes 1", x.strike(1), 2);
        CHECKS.due("again", x.everies(0), 1);
        CHECKS.due("3 strikes 2", x.strike(2), 3);
        CHECKS.due("struck", x.everies(0), ALL);
        CHECKS.due("4 strikes 0", x.strike(0), 4);
        CHECKS.due("5 strikes 3", x.strike(3), 5);
        CHECKS.due("4 strikes still", x.everies(0), ALL);
        CHECKS.due("6 strikes 4", x.strike(4), 6);
        CHECKS.due("again", x.everies(0), 1);
        CHECKS.due("7 strikes 6", x.strike(6), 7);
        CHECKS.due("8 strikes 4", x.strike(4), 8);
        CHECKS.due("again", x.everies(0), 1);
        int[] by = {ALL, 1, ALL, 1, ALL, ALL, ALL, 1, ALL, 1};
        for (int n = 0; n < by.length; n++) {
            CHECKS.due("known by " + n, x.known(n), true);
            CHECKS.due("known by " + n, x.everies(0), by[n]);
        }
    }

    private static void knowing() {
        HeavenStop x = Checks.told(STOP);
        CHECKS.due("none", x.known(0), true);
        CHECKS.due("-1", x.known(-1), true);
        CHECKS.due("1 of none", x.known(1), false);
        CHECKS.due("-2", x.known(-2), false);
        x.see(4, 1, true);
        CHECKS.due("by all to come", x.everies(0), 1);
        CHECKS.due("by how many", x.count(12), 1);
        CHECKS.due("by 1", x.known(1), true);
        x.see(4, 1, false);
        CHECKS.due("the second isn't known", x.everies(0), 1);
        CHECKS.due("by how many", x.count(12), 1);
        CHECKS.due("by 2", x.known(2), true);
        CHECKS.due("both can't be", x.everies(0), 0);
        CHECKS.due("nothing to ask", x.ask(0, 0), 0);
        CHECKS.due("none left", x.ask(0, 1), 0);
        CHECKS.due("by 3", x.known(3), false);
        CHECKS.due("stays by 2", x.count(12), 2);
        CHECKS.due("by none", x.known(0), true);
        CHECKS.due("all", x.everies(0), ALL);
        CHECKS.due("by 0", x.count(12), 0);
        CHECKS.due("largest", x.known(Integer.MAX_VALUE), false);
    }

    private static void everies() {
        HeavenStop x = Checks.told(STOP);
        CHECKS.due("nothing seen", x.everies(0), ALL);
        CHECKS.due("nothing seen", x.everies(1), ALL);
        // a goes in minute 2 anyway.
        x.see(3, 0, true);
        CHECKS.due("a is gone", x.everies(0), ALL);
        x.see(9, 1, true);
        // b goes in minute 2 + e, 8 at most.
        CHECKS.due("b by 9", x.everies(0), 0b111111);
        x.see(6, 1, false);
        // not in minute 5 or ahead of it: 2 + e is 6 at least.
        CHECKS.due("b not by 6", x.everies(0), 0b111000);
        x.see(13, 2, true);
        // c goes in minute 2 + 2 e, 12 at most.
        CHECKS.due("c by 13", x.everies(0), 0b011000);
        // As k is told, b is gone behind 6 minutes: no EVERY of l mends that.
        CHECKS.due("of l", x.everies(1), 0);
        CHECKS.due("no such bus", x.everies(2), -1);
        CHECKS.due("no such bus", x.everies(-1), -1);
        CHECKS.due("the bus stays", x.bus(0, 1), 3);
    }

    private static void fromTheTextOn() {
        HeavenStop x = Checks.told(STOP);
        x.go(1);
        x.off(0);
        x.give(1, 9);
        x.go(30);
        x.see(3, 0, true);
        CHECKS.due("a was gone by the text", x.everies(0), ALL);
        x.see(3, 1, false);
        CHECKS.due("b was not", x.everies(0), ALL);
        CHECKS.due("a is off", Checks.soul(x, 0, 0), 3);
        CHECKS.due("minute 31", x.count(4), 31);
        // Rain as it goes, by which one gets on: wet 5 behind 5 minutes.
        x = Checks.told("soul a 0 0 0;bus k 0 1 1 0;seats 0;rain 50;law may wet>=5;");
        x.see(5, 0, false);
        CHECKS.due("not yet", x.everies(0), ALL);
        x.see(6, 0, true);
        CHECKS.due("in minute 5", x.everies(0), 0b10001);
    }

    private static void asking() {
        HeavenStop x = Checks.told(STOP);
        // Of all 30 minute 50 parts them best: 48 has nine divisors.
        CHECKS.due("minute", x.ask(0, 0), 50);
        CHECKS.due("left", x.ask(0, 1), 21);
        x.see(9, 1, true);
        x.see(6, 1, false);
        // 4, 5, 6 are left: in minute 6 came 4 alone.
        CHECKS.due("minute", x.ask(0, 0), 6);
        CHECKS.due("left", x.ask(0, 1), 2);
        x.see(13, 2, true);
        // 4, 5
        CHECKS.due("minute", x.ask(0, 0), 6);
        CHECKS.due("left", x.ask(0, 1), 1);
        // first at 40: 20 minutes are left, of which 52 and 60 have six divisors at most, 58 has 18's six.
        CHECKS.due("of l: none is left", x.ask(1, 1), 0);
        CHECKS.due("what 2", x.ask(0, 2), -1);
        CHECKS.due("what -1", x.ask(0, -1), -1);
        CHECKS.due("no such bus", x.ask(2, 0), -1);
        CHECKS.due("no such bus", x.ask(-1, 0), -1);
        x = Checks.told("bus k 0 7 1 0;bus l 61 7 1 0;bus m 60 7 1 0;");
        // In minute 0 all came; in 60 came 1 2 3 4 5 6 10 12 15 20 30, eleven.
        CHECKS.due("minute", x.ask(0, 0), 60);
        CHECKS.due("left", x.ask(0, 1), 19);
        CHECKS.due("l never comes", x.ask(1, 0), 0);
        CHECKS.due("l never comes", x.ask(1, 1), 30);
        CHECKS.due("m comes at 60 by all", x.ask(2, 0), 0);
        CHECKS.due("m comes at 60 by all", x.ask(2, 1), 30);
    }
}
