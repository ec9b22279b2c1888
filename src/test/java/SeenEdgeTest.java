/**
 * What was SEEN, and promises 27 to 31: each sentence that names a bound has a method of its own, which
 * asks at the bound and on both sides of it.
 */
public final class SeenEdgeTest {
    private static final Checks CHECKS = new Checks();
    private static final int ALL = (1 << 30) - 1;
    /** b, who dies at 1, goes in minute e, if k comes EVERY e MINUTES. */
    private static final String STOP = "soul a 0 5 0;soul b 1 9 0;bus k 0 3 1 0;bus l 99 7 8 0;";

    public static void main(String[] args) {
        atMost();
        behindMinutes();
        seeNone();
        strikeNone();
        struckOnes();
        knownByN();
        knownByAll();
        knownNone();
        everiesBits();
        everiesInPlaceOfItsOwn();
        everiesFromTheText();
        everiesNone();
        askMinutes();
        askAtWorst();
        askFirstOfSeveral();
        askNone();
        CHECKS.end("SeenEdgeTest");
    }

    private static void atMost() {
        CHECKS.says("SEEN, at most 24, numbered from 0 on; NONE: there are 24");
        HeavenStop x = Checks.told(STOP);
        for (int i = 0; i < 24; i++) {
            CHECKS.due("there are", x.count(11), i);
            CHECKS.due("see " + i, x.see(60, 0, true), i);
        }
        CHECKS.due("a 25th", x.see(60, 0, true), -1);
        CHECKS.due("a 25th that strikes", x.strike(0), -1);
        CHECKS.due("24", x.count(11), 24);
        CHECKS.due("all are so", x.everies(0), ALL);
        x = Checks.told(STOP);
        x.see(2, 1, true);
        for (int i = 1; i < 24; i++) {
            CHECKS.due("strike " + i, x.strike(i - 1), i);
        }
        CHECKS.due("a 25th", x.strike(23), -1);
        CHECKS.due("a 25th that is seen", x.see(1, 0, true), -1);
        // 23 strikes 22, 22 doesn't strike 21 then, ..: 1 strikes 0.
        CHECKS.due("0 is struck", x.everies(0), ALL);
        x.known(23);
        CHECKS.due("by 23 it isn't", x.everies(0), 1);
        CHECKS.due("a text begins anew", Checks.tell(x, STOP), 4);
        CHECKS.due("from 0 on", x.see(1, 0, true), 0);
    }

    private static void behindMinutes() {
        CHECKS.says("behind so many MINUTES 1 .. 60 a SOUL was GONE, or wasn't");
        String[] at = {"bus k 0 30 1 0;", "bus k 1 30 1 0;", "bus k 59 30 1 0;", "bus k 60 30 1 0;"};
        int[] minute = {0, 1, 59, 60};
        for (int i = 0; i < at.length; i++) {
            for (int behind : new int[] {1, 2, 59, 60}) {
                boolean isGone = minute[i] < behind;
                HeavenStop x = Checks.told("soul a 0 0 0;" + at[i]);
                CHECKS.due("see", x.see(behind, 0, isGone), 0);
                CHECKS.due(at[i] + " behind " + behind, x.everies(0), ALL);
                x = Checks.told("soul a 0 0 0;" + at[i]);
                CHECKS.due("see otherwise", x.see(behind, 0, !isGone), 0);
                CHECKS.due(at[i] + " behind " + behind + " otherwise", x.everies(0), 0);
            }
        }
    }

    private static void seeNone() {
        CHECKS.says("27: NONE: no such ones");
        HeavenStop x = Checks.told(eight());
        for (int minutes : new int[] {Integer.MIN_VALUE, -1, 0, 61, Integer.MAX_VALUE}) {
            CHECKS.due("minutes " + minutes, x.see(minutes, 0, true), -1);
            CHECKS.due("minutes " + minutes, x.see(minutes, 7, false), -1);
        }
        for (int soul : new int[] {Integer.MIN_VALUE, -1, 8, Integer.MAX_VALUE}) {
            CHECKS.due("soul " + soul, x.see(1, soul, true), -1);
            CHECKS.due("soul " + soul, x.see(60, soul, false), -1);
        }
        CHECKS.due("none was seen", x.count(11), 0);
        CHECKS.due("1", x.see(1, 0, false), 0);
        CHECKS.due("60", x.see(60, 7, false), 1);
        CHECKS.due("nobody", new HeavenStop().see(1, 0, true), -1);
    }

    private static String eight() {
        StringBuilder all = new StringBuilder("bus a 9 1 1 9;bus b 9 1 1 9;bus c 9 1 1 9;bus d 9 1 1 9;");
        for (int i = 0; i < 8; i++) {
            all.append("soul ").append((char) ('a' + i)).append(" 0 0 0;");
        }
        return all.toString();
    }

    private static void strikeNone() {
        CHECKS.says("One may strike one ahead of it; 28: NONE: no such one");
        HeavenStop x = Checks.told(STOP);
        CHECKS.due("none to strike", x.strike(0), -1);
        CHECKS.due("none to strike", x.strike(-1), -1);
        x.see(1, 0, true);
        x.see(1, 0, true);
        for (int seen : new int[] {Integer.MIN_VALUE, -1, 2, 3, Integer.MAX_VALUE}) {
            CHECKS.due("strike " + seen, x.strike(seen), -1);
        }
        CHECKS.due("two are seen", x.count(11), 2);
        CHECKS.due("the first one", x.strike(0), 2);
        CHECKS.due("itself is no such one", x.strike(3), -1);
        CHECKS.due("the latest one, which strikes", x.strike(2), 3);
        CHECKS.due("one that is struck already", x.strike(0), 4);
        CHECKS.due("five", x.count(11), 5);
    }

    private static void struckOnes() {
        CHECKS.says("(what strikes may be STRUCK: then it doesn't count; asked from the last one on)");
        HeavenStop x = Checks.told(STOP);
        x.see(2, 1, true);
        int[] chain = {1, ALL, 1, ALL, 1, ALL};
        CHECKS.due("0", x.everies(0), chain[0]);
        for (int i = 1; i < chain.length; i++) {
            CHECKS.due("one more", x.strike(i - 1), i);
            CHECKS.due(i + " strikes " + (i - 1), x.everies(0), chain[i]);
        }
        // Two strike it: to strike one of them isn't enough.
        x = Checks.told(STOP);
        x.see(2, 1, true);
        x.strike(0);
        x.strike(0);
        x.strike(1);
        CHECKS.due("2 strikes still", x.everies(0), ALL);
        x.strike(2);
        CHECKS.due("both are struck", x.everies(0), 1);
        x.strike(4);
        CHECKS.due("2 strikes again", x.everies(0), ALL);
        // One strikes no other one than told.
        x = Checks.told(STOP);
        x.see(2, 1, true);
        x.see(2, 1, true);
        x.strike(0);
        CHECKS.due("1 is known still", x.everies(0), 1);
        x.strike(1);
        CHECKS.due("none is known", x.everies(0), ALL);
    }

    private static void knownByN() {
        CHECKS.says("KNOWN by n: the first n that aren't STRUCK by one of these");
        HeavenStop x = Checks.told(STOP);
        x.see(3, 1, true);
        x.see(2, 1, true);
        x.strike(1);
        x.strike(2);
        // 0: every 1 or 2; 1: every 1; 2 strikes 1; 3 strikes 2.
        int[] want = {ALL, 3, 1, 3, 1};
        for (int n = 0; n <= 4; n++) {
            CHECKS.due("known by " + n, x.known(n), true);
            CHECKS.due("by " + n, x.everies(0), want[n]);
            CHECKS.due("by how many", x.count(12), n);
        }
        // From now on: what is seen later isn't among the first n.
        x.known(1);
        x.see(30, 1, false);
        CHECKS.due("by 1 still", x.everies(0), 3);
        CHECKS.due("by 1 still", x.count(12), 1);
        CHECKS.due("five are seen", x.count(11), 5);
    }

    private static void knownByAll() {
        CHECKS.says("KNOWN (all at first); 29: (-1: by all, also those to come)");
        HeavenStop x = Checks.told(STOP);
        CHECKS.due("by none, for there are none", x.count(12), 0);
        x.see(3, 1, true);
        CHECKS.due("all at first", x.everies(0), 3);
        CHECKS.due("all at first: by 1", x.count(12), 1);
        x.known(1);
        x.see(2, 1, true);
        CHECKS.due("by 1", x.everies(0), 3);
        CHECKS.due("-1", x.known(-1), true);
        CHECKS.due("by all", x.everies(0), 1);
        CHECKS.due("by 2", x.count(12), 2);
        x.strike(1);
        CHECKS.due("also those to come", x.everies(0), 3);
        CHECKS.due("by 3", x.count(12), 3);
        x.known(0);
        CHECKS.due("by none", x.everies(0), ALL);
        CHECKS.due("by 0", x.count(12), 0);
        Checks.tell(x, STOP);
        x.see(2, 1, true);
        CHECKS.due("all known again by a text", x.everies(0), 1);
    }

    private static void knownNone() {
        CHECKS.says("29: false: no such n");
        HeavenStop x = Checks.told(STOP);
        for (int many = 0; many <= 24; many++) {
            CHECKS.due("-2 of " + many, x.known(-2), false);
            CHECKS.due("one more of " + many, x.known(many + 1), false);
            CHECKS.due("just so many", x.known(many), true);
            CHECKS.due("refused: stays", x.known(many + 1), false);
            CHECKS.due("refused: stays", x.count(12), many);
            x.see(1, 0, true);
        }
        CHECKS.due("largest", x.known(Integer.MAX_VALUE), false);
        CHECKS.due("least", x.known(Integer.MIN_VALUE), false);
        CHECKS.due("by 24 still", x.count(12), 24);
    }

    private static void everiesBits() {
        CHECKS.says("EVERIES of a BUS: 1 .. 30 (bits 0 .. 29)");
        HeavenStop x = Checks.told(STOP);
        CHECKS.due("all 30", x.everies(0), 1073741823);
        // b is gone behind n minutes, if k came in 1 .. n - 1: every 1 .. n - 1.
        for (int n : new int[] {2, 3, 30, 31}) {
            x = Checks.told(STOP);
            x.see(n, 1, true);
            CHECKS.due("gone behind " + n, x.everies(0), (1 << (n - 1)) - 1);
            x = Checks.told(STOP);
            x.see(n, 1, false);
            CHECKS.due("not gone behind " + n, x.everies(0), ALL & ~((1 << (n - 1)) - 1));
        }
        x = Checks.told(STOP);
        x.see(30, 1, false);
        CHECKS.due("30 alone", x.everies(0), 1 << 29);
        x.see(31, 1, true);
        CHECKS.due("30 still", x.everies(0), 1 << 29);
        x.see(2, 1, true);
        CHECKS.due("none", x.everies(0), 0);
    }

    private static void everiesInPlaceOfItsOwn() {
        CHECKS.says("EVERIES: in place of its own, by which all KNOWN ones are so");
        // k as told comes in 0, 3, 6: b is gone behind 4 minutes. No EVERY of l changes that.
        HeavenStop x = Checks.told(STOP);
        x.see(4, 1, true);
        CHECKS.due("of l", x.everies(1), ALL);
        x.see(3, 1, true);
        CHECKS.due("of l: not gone behind 3", x.everies(1), 0);
        CHECKS.due("of k", x.everies(0), 3);
        CHECKS.due("its own stays", x.bus(0, 1), 3);
        CHECKS.due("its own is used again", x.goes(1), 4);
        CHECKS.due("its own is used again", x.next(0), 0);
    }

    private static void everiesFromTheText() {
        CHECKS.says("(as it goes from the TEXT on, nothing done by call)");
        HeavenStop x = Checks.told("soul a 0 0 3;soul b 0 0 9;bus k 2 30 1 5;rain 49;seats 0;law may wet<1 and coins>=fare;");
        x.go(1);
        x.give(0, 9);
        x.off(1);
        x.go(7);
        CHECKS.due("see", x.see(3, 1, true), 0);
        CHECKS.due("see", x.see(60, 0, false), 1);
        CHECKS.due("as told", x.everies(0), ALL);
        CHECKS.due("minute 8", x.count(4), 8);
        CHECKS.due("b is off", Checks.soul(x, 1, 0), 3);
        // Rain of 50 falls as it goes, whatever the seed.
        for (int seed : new int[] {0, 1, 2, 3}) {
            x = Checks.told("soul a 0 0 0;bus k 1 30 1 0;seats 0;law may wet>0;rain 50;seed " + seed + ";");
            x.see(2, 0, true);
            CHECKS.due("rain 50, seed " + seed, x.everies(0), ALL);
            x = Checks.told("soul a 0 0 0;bus k 1 30 1 0;seats 0;law may wet>0;rain 49;seed " + seed + ";");
            x.see(60, 0, false);
            CHECKS.due("rain 49, seed " + seed, x.everies(0), ALL);
        }
    }

    private static void everiesNone() {
        CHECKS.says("30: NONE: no such BUS");
        HeavenStop x = Checks.told(eight());
        CHECKS.range("everies", 0, 3, -1, x::everies);
        CHECKS.due("no third one", Checks.told(STOP).everies(2), -1);
    }

    private static void askIs(String what, HeavenStop x, int bus, int minute, int left) {
        CHECKS.due(what + ": minute", x.ask(bus, 0), minute);
        CHECKS.due(what + ": left", x.ask(bus, 1), left);
    }

    private static void askMinutes() {
        CHECKS.says("ASK of a BUS: the MINUTE 0 .. 60 of which, if one asks whether the BUS came in it");
        // 60 has eleven divisors 1 .. 30, 48 has nine, as the next best below.
        askIs("first at 0: 60", Checks.told("bus k 0 7 1 0;"), 0, 60, 19);
        askIs("first at 1: 61 is too far", Checks.told("bus k 1 7 1 0;"), 0, 49, 21);
        askIs("first at 12", Checks.told("bus k 12 7 1 0;"), 0, 60, 21);
        // Without 48: 24, 30 and 36 have eight.
        askIs("first at 13", Checks.told("bus k 13 7 1 0;"), 0, 37, 22);
        // First at 58: 0, 1, 2 are left: 1 and 2 came in 60.
        askIs("first at 58", Checks.told("bus k 58 7 1 0;"), 0, 60, 28);
        // First at 59: 1 alone came in 60, all in 59, none ahead.
        askIs("first at 59", Checks.told("bus k 59 7 1 0;"), 0, 60, 29);
        // First at 60 or later: it tells nothing, and 0 is the first of all.
        askIs("first at 60", Checks.told("bus k 60 7 1 0;"), 0, 0, 30);
        askIs("first at 61", Checks.told("bus k 61 7 1 0;"), 0, 0, 30);
        askIs("first at 99", Checks.told("bus k 99 7 1 0;"), 0, 0, 30);
    }

    private static void askAtWorst() {
        CHECKS.says("ASK: as few of these as may be are left at worst");
        HeavenStop x = Checks.told(STOP);
        askIs("30", x, 0, 60, 19);
        x.see(4, 1, true);
        // 1, 2, 3: came in 1 is 1 alone.
        askIs("1, 2, 3", x, 0, 1, 2);
        x.see(3, 1, true);
        askIs("1, 2", x, 0, 1, 1);
        x.see(2, 1, true);
        askIs("1 alone", x, 0, 0, 1);
        x.see(2, 1, false);
        askIs("none", x, 0, 0, 0);
        x.known(0);
        askIs("known by none", x, 0, 60, 19);
        x.known(2);
        askIs("known by two", x, 0, 1, 1);
    }

    private static void askFirstOfSeveral() {
        CHECKS.says("ASK: the first of several");
        HeavenStop x = Checks.told(STOP);
        x.see(29, 1, false);
        // 29, 30: came in 29 is 29 alone, in 30 is 30 alone, in 58 and 60 as well.
        askIs("29, 30", x, 0, 29, 1);
        x = Checks.told(STOP);
        x.see(5, 1, false);
        x.see(9, 1, true);
        // 5 .. 8: 5, 6, 7, 8 came alone in their minutes; 10 is 5, 12 is 6, 24 is 6 and 8.
        askIs("5 to 8", x, 0, 24, 2);
        x = Checks.told(STOP);
        x.see(30, 1, false);
        askIs("30 alone: any minute, so 0", x, 0, 0, 1);
    }

    private static void askNone() {
        CHECKS.says("31: what 0: the MINUTE, 1: how many are left at worst. NONE: no such ones");
        HeavenStop x = Checks.told(eight());
        CHECKS.range("what", 0, 1, -1, what -> x.ask(0, what));
        CHECKS.range("what", 0, 1, -1, what -> x.ask(3, what));
        CHECKS.range("bus", 0, 3, -1, bus -> x.ask(bus, 0));
        CHECKS.range("bus", 0, 3, -1, bus -> x.ask(bus, 1));
        CHECKS.due("no bus", new HeavenStop().ask(0, 0), -1);
    }
}
