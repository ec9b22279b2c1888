import java.util.ArrayList;
import java.util.List;

/** Promises 1 to 5, 7 and 9: a new object, feed, text, fault, named, bus, lets. */
public final class TextTest {
    private static final Checks CHECKS = new Checks();

    public static void main(String[] args) {
        newObject();
        feeding();
        reading();
        readingOften();
        lexing();
        faults();
        tooMany();
        toldAlready();
        expressions();
        knots();
        names();
        buses();
        letting();
        CHECKS.end("TextTest");
    }

    private static void newObject() {
        HeavenStop x = new HeavenStop();
        int[] counts = {0, 0, 2, 0, 0, 0, 0, 0, 0, 0, 0, 0, 0, 0};
        for (int i = 0; i < counts.length; i++) {
            CHECKS.due("new: count " + i, x.count(i), counts[i]);
        }
        CHECKS.due("new: text(1)", x.text(1), -2);
        CHECKS.due("new: fault", x.fault(0), 0);
        CHECKS.due("new: fault's place", x.fault(1), -1);
        CHECKS.due("new: no image", x.back(), -1);
        CHECKS.due("new: nothing to undo", x.undo(), -1);
        CHECKS.due("new: dry", x.dry(6, 1), 1);
        CHECKS.due("NONE", HeavenStop.NONE, -1);
    }

    private static void feeding() {
        HeavenStop x = new HeavenStop();
        for (int i = 1; i <= 35; i++) {
            CHECKS.due("feed " + i, x.feed(0x20202020, 0x20202020, 0x20202020, 0x20202020, 0x20202020), 20 * i);
        }
        CHECKS.due("feed beyond 700", x.feed(0, 0, 0, 0, 0), -1);
        CHECKS.due("text(701)", x.text(701), -2);
        CHECKS.due("all 700 blanks", x.text(700), 0);
        CHECKS.due("the tape is empty then", x.text(1), -2);
        // "seat" "s 7;", the highest byte first
        CHECKS.due("feed again", x.feed(0x73656174, 0x7320373b, 0, 0, 0), 20);
        CHECKS.due("seats 7;", x.text(8), 1);
        CHECKS.due("seats", x.count(2), 7);
    }

    private static void reading() {
        HeavenStop x = Checks.told("soul a 0 1 2;bus k 3 1 1 0;seats 5;rain 100;seed 9;law may 1;");
        x.go(2);
        x.keep();
        x.give(0, 1);
        x.see(1, 0, true);
        x.known(0);
        Checks.feed(x, "soul b 0 0 0;soul c 1 2 3;");
        CHECKS.due("not so many", x.text(41), -2);
        CHECKS.due("below 0", x.text(-1), -2);
        CHECKS.due("stays", x.count(0), 1);
        CHECKS.due("least number", x.text(Integer.MIN_VALUE), -2);
        CHECKS.due("the tape stays", x.text(26), 2);
        int[] counts = {2, 0, 2, 0, 0, 0, 0, 0, 0, 0, 0, 0, 0, 0};
        for (int i = 0; i < counts.length; i++) {
            CHECKS.due("told anew: count " + i, x.count(i), counts[i]);
        }
        CHECKS.due("told anew: no image", x.back(), -1);
        CHECKS.due("told anew: no rain", x.dry(1, 0), 1);
        CHECKS.due("told anew: no law", x.law(2, 0, 0), Long.MIN_VALUE);
        CHECKS.due("told anew: coins", Checks.soul(x, 1, 2), 3);

    }

    /** What one text told must not be seen in the next but one, nor what a faulty one told. */
    private static void readingOften() {
        String full = "soul a 0 1 2;soul b 0 5 6;soul c 0 5 6;bus k 0 1 1 0;lets a b;lets b c;lets a c;seats 0;rain 100;"
            + "seed 9;law may 1 and(2<3);law turn 2;law soak 3;";
        HeavenStop x = Checks.told(full);
        for (int i = 0; i < 3; i++) {
            x.go(2);
            x.see(1, 0, true);
            x.known(1);
            CHECKS.due("faulty", Checks.tell(x, full + "law may ((1<2)<(3+"), -1);
            CHECKS.due("full", Checks.tell(x, full), 13);
            x.go(3);
            CHECKS.due("passed", x.count(10) > 0, true);
            CHECKS.due("faulty", Checks.tell(x, "law may ((1<2"), -1);
            CHECKS.due("two", Checks.tell(x, "soul d 0 7 8;soul e 0 0 0;"), 2);
            int[] counts = {2, 0, 2, 0, 0, 0, 0, 0, 0, 0, 0, 0, 0, 0};
            for (int j = 0; j < counts.length; j++) {
                CHECKS.due("two: count " + j, x.count(j), counts[j]);
            }
            CHECKS.due("no lets", x.lets(0), 0);
            CHECKS.due("no rain", x.dry(1, 1), 1);
            CHECKS.due("not passed", Checks.soul(x, 0, 5), 0);
            CHECKS.due("no law", x.law(2, 0, 0), Long.MIN_VALUE);
            x.go(5);
            CHECKS.due("both wait", x.count(5), 2);
            CHECKS.due("faulty", Checks.tell(x, "law may ("), -1);
            CHECKS.due("one comparison", Checks.tell(x, "law may 1<2;"), 1);
        }
        // Eight of each at once, time and again: no limit is used up by a text ahead.
        StringBuilder eight = new StringBuilder();
        for (int i = 0; i < 8; i++) {
            eight.append("soul ").append((char) ('a' + i)).append(" 0 0 1;");
        }
        for (int i = 0; i < 8; i++) {
            eight.append("lets ").append((char) ('a' + i)).append(' ').append((char) ('a' + (i + 3) % 8)).append(';');
        }
        for (int i = 0; i < 4; i++) {
            CHECKS.due("eight", Checks.tell(x, eight.toString()), 16);
        }
    }

    private static void fault(String text, int fault, int place) {
        HeavenStop x = new HeavenStop();
        Checks.tell(x, "soul old 0 0 0;seats 3;");
        x.go(2);
        x.give(0, 4);
        CHECKS.due("'" + text + "'", Checks.tell(x, text), -1);
        CHECKS.due("'" + text + "': fault", x.fault(0), fault);
        CHECKS.due("'" + text + "': place", x.fault(1), place);
        CHECKS.due("'" + text + "': all stays, seats", x.count(2), 3);
        CHECKS.due("'" + text + "': all stays, minute", x.count(4), 2);
        CHECKS.due("'" + text + "': all stays, undo", x.count(13), 1);
        CHECKS.due("'" + text + "': named", x.named(0, Checks.letters("old")), 0);
        CHECKS.due("'" + text + "': coins", Checks.soul(x, 0, 2), 4);
        CHECKS.due("'" + text + "': the tape is empty", x.text(1), -2);
        CHECKS.due("'" + text + "': -2 changes no fault", x.fault(0), fault);
        CHECKS.due("no fault", x.text(0), 0);
        CHECKS.due("no fault: 0", x.fault(0), 0);
        CHECKS.due("no fault: NONE", x.fault(1), -1);
    }

    private static void fine(String text, int lines) {
        HeavenStop x = new HeavenStop();
        CHECKS.due("'" + text + "'", Checks.tell(x, text), lines);
        CHECKS.due("'" + text + "': fault", x.fault(0), 0);
    }

    private static void lexing() {
        fine("", 0);
        fine("\n \n", 0);
        fine("soul\na\n0 0\n0 ;\n", 1);
        fine("soul a1 2 3;", 1);
        fine("soul abcdef 007 0099 00000000000000;", 1);
        fine("seats8;rain100;seed99999;", 3);
        fine("soul a 0 0 0;bus a 0 1 1 0;", 2);
        fault("soul abcdefg 0 0 0;", 1, 5);
        fault("soulsou a 0 0 0;", 1, 0);
        fault("soul A 0 0 0;", 1, 5);
        fault("soul a\t0 0 0;", 1, 6);
        fault("soul a\r\n0 0 0;", 1, 6);
        fault("soul " + (char) 233 + " 0 0 0;", 1, 5);
        fault("seats" + (char) 160 + "2;", 1, 5);
        fault("seats 2:", 1, 7);
        fault("seats 2\0;", 1, 7);
        for (String word : ("soul bus lets seats rain seed law may turn soak or and not "
            + "kind coins wet wait fare place minute").split(" ")) {
            fault("soul " + word + " 0 0 0;", 1, 5);
            fault("bus " + word + " 0 1 1 0;", 1, 4);
            fault("lets " + word + " a;", 1, 5);
        }
        fine("soul souls 0 0 0;soul orand 0 0 0;soul minutx 0 0 0;", 3);
    }

    private static void faults() {
        fault("soul a 0 0 0", 1, 12);
        fault("soul a 0 0 0  \n ", 1, 16);
        fault("soul", 1, 4);
        fault("soul a 0 0;", 1, 10);
        fault("soul a 0 0 0 0;", 1, 13);
        fault("soul 0 0 0;", 1, 5);
        fault(";", 1, 0);
        fault("soul a 0 0 0;;", 1, 13);
        fault("a;", 1, 0);
        fault("may 1;", 1, 0);
        fault("5;", 1, 0);
        fault("bus b 0 1 1;", 1, 11);
        fault("bus b 0 1 1 (;", 1, 12);
        fault("seats;", 1, 5);
        fault("rain a;", 1, 5);
        fault("seed -1;", 1, 5);
        fault("seats 9;", 2, 6);
        fault("rain 101;", 2, 5);
        fault("seed 100000;", 2, 5);
        fault("seed 99999999999999999999999;", 2, 5);
        fault("seats 4294967296;", 2, 6);
        fault("soul a 100 100 100;", 2, 7);
        fault("soul a 0 100 0;", 2, 9);
        fault("soul a 0 0 100;", 2, 11);
        fault("bus b 100 1 1 0;", 2, 6);
        fault("bus b 0 0 1 0;", 2, 8);
        fault("bus b 0 31 1 0;", 2, 8);
        fault("bus b 0 1 0 0;", 2, 10);
        fault("bus b 0 1 9 0;", 2, 10);
        fault("bus b 0 1 1 100;", 2, 12);
        fault("lets a b;", 4, 5);
        fault("soul a 0 0 0;lets b a;", 4, 18);
        fault("soul a 0 0 0;lets a b;soul b 0 0 0;", 4, 20);
        fault("soul a 0 0 0;bus b 0 1 1 0;lets a b;", 4, 34);
        fault("soul a 0 0 0;lets a a;", 5, 20);
        fault("soul a 0 0 0;lets a 1;", 1, 20);
        fault("soul a 0 0 0;lets a;", 1, 19);
        fault("soul a 0 0 0;lets a abcdefg;", 1, 20);
        // The first along the text counts, not the least kind.
        fault("seats 9;?", 2, 6);
        fault("lets a a;soul A", 4, 5);
    }

    private static void tooMany() {
        StringBuilder souls = new StringBuilder();
        for (int i = 0; i < 8; i++) {
            souls.append("soul ").append((char) ('a' + i)).append(" 0 0 0;");
        }
        fine(souls.toString(), 8);
        fault(souls + "soul i 0 0 0;", 2, 104);
        fault(souls + " soul", 2, 105);
        StringBuilder buses = new StringBuilder();
        for (int i = 0; i < 4; i++) {
            buses.append("bus ").append((char) ('a' + i)).append(" 0 1 1 0;");
        }
        fine(buses.toString(), 4);
        fault(buses + "bus a 0 1 1 0;", 2, 56);
        StringBuilder lets = new StringBuilder(souls);
        for (int i = 0; i < 8; i++) {
            lets.append("lets ").append((char) ('a' + i)).append(' ').append((char) ('a' + (i + 1) % 8)).append(';');
        }
        fine(lets.toString(), 16);
        fault(lets + "lets a c;", 2, 176);
        fine(lets + buses.toString() + "law may 1;law turn 2;law soak 3;seats 1;rain 1;seed 1;", 26);
    }

    private static void toldAlready() {
        fault("soul a 0 0 0;soul a 0 0 0;", 3, 18);
        fault("bus a 0 1 1 0;bus a 0 1 1 0;", 3, 18);
        fault("soul a 0 0 0;soul b 0 0 0;lets a b;lets a b;", 3, 42);
        fine("soul a 0 0 0;soul b 0 0 0;lets a b;lets b a;", 4);
        fault("seats 1;seats 1;", 3, 8);
        fault("seats 1;seats", 3, 8);
        fault("rain 1;rain 1;", 3, 7);
        fault("seed 1;seed 1;", 3, 7);
        fault("law may 1;law may 1;", 3, 14);
        fault("law turn 1;law turn", 3, 15);
        fault("law soak 1;law soak 1;", 3, 15);
        fine("law soak 1;law may 1;law turn 1;", 3);
    }

    private static void expressions() {
        fine("law may 1;", 1);
        fine("law may((((((((1))))))));", 1);
        fine("law may (1)+((2))*(((3)));", 1);
        fine("law may not not not 1;", 1);
        fine("law may 1+(not 2)*(not not 3);", 1);
        fine("law may not(1<2)and not 2 or not 3=4;", 1);
        fine("law may (1<2)<(2<3);", 1);
        fine("law may 9999;", 1);
        fine("law may kind+coins-wet*wait/fare<=place<>0 ;".replace("<>0", ""), 1);
        fault("law", 1, 3);
        fault("law bus 1;", 1, 4);
        fault("law kind 1;", 1, 4);
        fault("law abc 1;", 1, 4);
        fault("law may;", 1, 7);
        fault("law may", 1, 7);
        fault("law may 1", 1, 9);
        fault("law may 1+", 1, 10);
        fault("law may (1;", 1, 10);
        fault("law may 1);", 1, 9);
        fault("law may ();", 1, 9);
        fault("law may (1)(2);", 1, 11);
        fault("law may 1 2;", 1, 10);
        fault("law may kind 2;", 1, 13);
        fault("law may -1;", 1, 8);
        fault("law may 1+-1;", 1, 10);
        fault("law may 1<2<3;", 1, 11);
        fault("law may 1<2+1=3;", 1, 13);
        fault("law may (1<2<3);", 1, 12);
        fault("law may 1< =2;", 1, 11);
        fault("law may 1==2;", 1, 10);
        fault("law may 1=>2;", 1, 10);
        fault("law may 1> =2;", 1, 11);
        fault("law may 1<<2;", 1, 10);
        fault("law may 1><2;", 1, 10);
        fault("law may 1+not 2;", 1, 10);
        fault("law may 1<not 2;", 1, 10);
        fault("law may 1 not 2;", 1, 10);
        fault("law may or 1;", 1, 8);
        fault("law may 1 and or 2;", 1, 14);
        fault("law may 1 and;", 1, 13);
        fault("law may abc;", 1, 8);
        fault("law may soul;", 1, 8);
        fault("law may kinds;", 1, 8);
        fault("law may 10000;", 2, 8);
        fault("law may 1 10000;", 1, 10);
        fault("law may (((((((((1)))))))));", 2, 16);
        fault("law may ((((((((1((", 1, 17);
        fine("law may ((((((((1))))))))+((((((((1))))))));", 1);
    }

    private static void knots() {
        StringBuilder row = new StringBuilder("1");
        for (int i = 0; i < 31; i++) {
            row.append("+1");
        }
        // 32 numbers and 31 signs are 63 knots.
        HeavenStop x = new HeavenStop();
        CHECKS.due("63 knots", Checks.tell(x, "law may " + row + ";"), 1);
        CHECKS.due("63", x.count(3), 63);
        CHECKS.due("64 knots", Checks.tell(x, "law may not " + row + ";"), 1);
        CHECKS.due("64", x.count(3), 64);
        CHECKS.due("64 of two laws", Checks.tell(x, "law may " + row + ";law soak (1);"), 2);
        CHECKS.due("64 again", x.count(3), 64);
        fault("law may " + row + "+1;", 2, 8 + 64);
        fault("law may not " + row + "+1;", 2, 12 + 63);
        fault("law may " + row + ";law soak 1+1;", 2, 8 + 63 + 1 + 10);
        fault("law may " + row + ";law soak not 1;", 2, 8 + 63 + 1 + 13);
        fault("law may " + row + ";law soak 1 and 1;", 2, 8 + 63 + 1 + 11);
        fault("law may not " + row + " 1;", 1, 12 + 64);
        fault("law may not " + row + ";law soak +;", 1, 12 + 63 + 1 + 9);
        fault("law may " + row + ";law soak 1 or;law turn kind;", 2, 8 + 63 + 1 + 11);
        fault("law may not " + row + ";law turn kind;", 2, 12 + 63 + 1 + 9);
        fine("law may not " + row + ";seats 1;", 2);
        StringBuilder nots = new StringBuilder();
        for (int i = 0; i < 63; i++) {
            nots.append("not ");
        }
        fine("law may " + nots + "1;", 1);
        fault("law may " + nots + "not 1;", 2, 8 + 64 * 4);
    }

    private static void names() {
        HeavenStop x = Checks.told("soul a 0 0 0;soul zzzzzz 0 0 0;soul ab 0 0 0;bus a 0 1 1 0;bus b 0 1 1 0;");
        CHECKS.due("a", x.named(0, 1 << 25), 0);
        CHECKS.due("zzzzzz", x.named(0, Checks.letters("zzzzzz")), 1);
        CHECKS.due("ab", x.named(0, (1 << 25) + (2 << 20)), 2);
        CHECKS.due("bus b", x.named(1, 2 << 25), 1);
        CHECKS.due("bus a", x.named(1, 1 << 25), 0);
        CHECKS.due("no soul b", x.named(0, 2 << 25), -1);
        CHECKS.due("no bus ab", x.named(1, Checks.letters("ab")), -1);
        int[] none = {0, 1, -1, (1 << 25) + 1, (1 << 30) + (1 << 25), Integer.MIN_VALUE + (1 << 25)};
        for (int letters : none) {
            CHECKS.due("no soul " + letters, x.named(0, letters), -1);
            CHECKS.due("no bus " + letters, x.named(1, letters), -1);
        }
        CHECKS.due("no such kind", x.named(2, 1 << 25), -1);
        CHECKS.due("no such kind", x.named(-1, 1 << 25), -1);
        Checks.tell(x, "soul b 0 0 0;");
        CHECKS.due("a is gone", x.named(0, 1 << 25), -1);
        CHECKS.due("zzzzzz is gone", x.named(0, Checks.letters("zzzzzz")), -1);
        CHECKS.due("b", x.named(0, 2 << 25), 0);
    }

    private static void buses() {
        HeavenStop x = Checks.told("bus a 99 30 8 99;bus b 0 1 1 0;soul s 0 5 0;soul t 0 6 0;");
        int[] first = {99, 30, 8, 99, 0};
        int[] second = {0, 1, 1, 0, 0};
        for (int i = 0; i < 5; i++) {
            CHECKS.due("bus 0 " + i, x.bus(0, i), first[i]);
            CHECKS.due("bus 1 " + i, x.bus(1, i), second[i]);
        }
        x.go(1);
        CHECKS.due("one is gone with it", x.bus(1, 4), 1);
        x.go(1);
        CHECKS.due("two are gone with it", x.bus(1, 4), 2);
        CHECKS.due("none with the other", x.bus(0, 4), 0);
        List<Integer> none = new ArrayList<>(List.of(-1, 2, 4, Integer.MAX_VALUE, Integer.MIN_VALUE));
        for (int bus : none) {
            CHECKS.due("no bus " + bus, x.bus(bus, 0), -1);
        }
        CHECKS.due("no what", x.bus(0, 5), -1);
        CHECKS.due("no what", x.bus(0, -1), -1);
    }

    private static void letting() {
        HeavenStop x = Checks.told("soul a 0 0 0;soul b 0 0 0;soul c 0 0 0;lets a b;lets a c;lets c a;");
        CHECKS.due("a", x.lets(0), 6);
        CHECKS.due("b", x.lets(1), 0);
        CHECKS.due("c", x.lets(2), 1);
        CHECKS.due("none", x.lets(3), -1);
        CHECKS.due("none", x.lets(-1), -1);
        Checks.tell(x, "soul a 0 0 0;soul b 0 0 0;");
        CHECKS.due("told anew", x.lets(0), 0);
    }
}
