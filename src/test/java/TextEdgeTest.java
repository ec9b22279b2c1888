/**
 * Part 1 of the terms and promises 1 to 5, 7, 9: each sentence that names a bound has a method of its
 * own, which asks at the bound and on both sides of it.
 */
public final class TextEdgeTest {
    private static final Checks CHECKS = new Checks();
    private static final String WORDS = "soul bus lets seats rain seed law may turn soak or and not "
        + "kind coins wet wait fare place minute";

    public static void main(String[] args) {
        newObject();
        feedTwenty();
        feedFull();
        textFirstBytes();
        textEmptiesTheTape();
        textBeginsAnew();
        textLines();
        textsAheadLeaveNothing();
        textFaultAllStays();
        textNotSoMany();
        faultOfTheLatest();
        faultWhat();
        namedLetters();
        namedNone();
        wordsOfLetters();
        wordsOfTheLanguage();
        digits();
        blanks();
        oneComparison();
        notOnlyAheadOfB();
        lawsOneBehindAnother();
        faultyLawsLeaveNothing();
        signsOfTwo();
        numbersOfE();
        souls();
        died();
        kindness();
        coins();
        buses();
        first();
        every();
        room();
        fare();
        lets();
        seats();
        rain();
        seed();
        namesOfTheirKind();
        firstAlongTheText();
        ofOnePlaceTheLeast();
        noToken();
        theLength();
        ninthOpen();
        knotsAre();
        sixtyFifthKnot();
        toldAlreadyNames();
        toldAlreadyLets();
        toldAlreadyOnce();
        toldAlreadyLaws();
        notToldAhead();
        letsItself();
        busNone();
        letsNone();
        CHECKS.end("TextEdgeTest");
    }

    // ---- helpers ----

    private static HeavenStop fine(String text, int lines) {
        HeavenStop x = new HeavenStop();
        CHECKS.due("'" + text + "'", Checks.tell(x, text), lines);
        CHECKS.due("'" + text + "': fault", x.fault(0), 0);
        CHECKS.due("'" + text + "': place", x.fault(1), -1);
        return x;
    }

    private static void fault(String text, int fault, int place) {
        HeavenStop x = new HeavenStop();
        CHECKS.due("'" + text + "'", Checks.tell(x, text), -1);
        CHECKS.due("'" + text + "': fault", x.fault(0), fault);
        CHECKS.due("'" + text + "': place", x.fault(1), place);
    }

    private static String souls(int many) {
        StringBuilder all = new StringBuilder();
        for (int i = 0; i < many; i++) {
            all.append("soul ").append((char) ('a' + i)).append(" 0 0 0;");
        }
        return all.toString();
    }

    private static String buses(int many) {
        StringBuilder all = new StringBuilder();
        for (int i = 0; i < many; i++) {
            all.append("bus ").append((char) ('a' + i)).append(" 0 1 1 0;");
        }
        return all.toString();
    }

    /** Each of eight lets the next one first. */
    private static String ring(int many) {
        StringBuilder all = new StringBuilder();
        for (int i = 0; i < many; i++) {
            all.append("lets ").append((char) ('a' + i)).append(' ').append((char) ('a' + (i + 1) % 8)).append(';');
        }
        return all.toString();
    }

    private static String times(String one, int many) {
        return one.repeat(Math.max(0, many));
    }

    private static int feedBlanks(HeavenStop x) {
        return x.feed(0x20202020, 0x20202020, 0x20202020, 0x20202020, 0x20202020);
    }

    // ---- promises 1 to 5 ----

    private static void newObject() {
        CHECKS.says("1: A TEXT without LINES; an empty TAPE");
        HeavenStop x = new HeavenStop();
        int[] counts = {0, 0, 2, 0, 0, 0, 0, 0, 0, 0, 0, 0, 0, 0};
        for (int i = 0; i < counts.length; i++) {
            CHECKS.due("count " + i, x.count(i), counts[i]);
        }
        CHECKS.due("text(1)", x.text(1), -2);
        CHECKS.due("text(0)", x.text(0), 0);
        CHECKS.due("feed is the first", feedBlanks(x), 20);
        CHECKS.due("undo", x.undo(), -1);
        CHECKS.due("back", x.back(), -1);
        CHECKS.due("see", x.see(1, 0, true), -1);
        CHECKS.due("lets", x.lets(0), -1);
        CHECKS.due("law soak", x.law(2, 0, 0), Long.MIN_VALUE);
        CHECKS.due("soul", Checks.soul(x, 0, 0), Checks.IOOBE);
        CHECKS.due("empty", x.empty(), 0);
        CHECKS.due("go", x.go(200), 200);
        CHECKS.due("trips", x.trips(0), -1);
        CHECKS.due("known by 0 of 0", x.known(0), true);
    }

    private static void feedTwenty() {
        CHECKS.says("2: Twenty bytes come behind the TAPE, four of each number, the highest first");
        HeavenStop x = new HeavenStop();
        // "soul" " abc" "def " "12 3" "4 56"
        CHECKS.due("20", x.feed(0x736f756c, 0x20616263, 0x64656620, 0x31322033, 0x34203536), 20);
        // ";" behind them, then a byte of each that is no token
        CHECKS.due("40", x.feed(0x3b000000, 0, 0, 0, 0), 40);
        CHECKS.due("a line", x.text(21), 1);
        CHECKS.due("abcdef", x.named(0, Checks.letters("abcdef")), 0);
        CHECKS.due("kindness", Checks.soul(x, 0, 1), 34);
        CHECKS.due("coins", Checks.soul(x, 0, 2), 56);
        x.go(12);
        CHECKS.due("not there in 12", x.count(5), 0);
        x.go(1);
        CHECKS.due("died at 12", x.count(5), 1);
        // Bytes above 127 are bytes, too, and no tokens.
        CHECKS.due("20", x.feed(-1, -1, -1, -1, Integer.MIN_VALUE), 20);
        CHECKS.due("no token", x.text(20), -1);
        CHECKS.due("at 0", x.fault(1), 0);
        CHECKS.due("20", x.feed(0x20202020, 0x20202020, 0x20202020, 0x20202020, 0x202020a0), 20);
        CHECKS.due("no blank", x.text(20), -1);
        CHECKS.due("at 19", x.fault(1), 19);
    }

    private static void feedFull() {
        CHECKS.says("2: NONE, and none come, if it would have more than 700");
        HeavenStop x = new HeavenStop();
        for (int i = 1; i <= 34; i++) {
            CHECKS.due("feed " + i, feedBlanks(x), 20 * i);
        }
        // "seats 7;" and blanks
        CHECKS.due("700", x.feed(0x73656174, 0x7320373b, 0x20202020, 0x20202020, 0x20202020), 700);
        CHECKS.due("720", x.feed(0x3b3b3b3b, 0x3b3b3b3b, 0x3b3b3b3b, 0x3b3b3b3b, 0x3b3b3b3b), -1);
        CHECKS.due("720 again", feedBlanks(x), -1);
        CHECKS.due("there are no 701", x.text(701), -2);
        CHECKS.due("still full", feedBlanks(x), -1);
        CHECKS.due("all 700", x.text(700), 1);
        CHECKS.due("the bytes stayed", x.count(2), 7);
        CHECKS.due("room again", feedBlanks(x), 20);
    }

    private static void textFirstBytes() {
        CHECKS.says("3: The TAPE's first n bytes are the TEXT");
        String two = "seats 4;seats 5;";
        for (int n = 0; n <= 16; n++) {
            HeavenStop x = new HeavenStop();
            Checks.feed(x, two);
            boolean isWhole = n == 0 || n == 8;
            CHECKS.due("first " + n, x.text(n), n == 0 ? 0 : n == 8 ? 1 : -1);
            // Up to 8 more must come; "s" .. "seat" behind it is a word that can't stand there.
            int place = isWhole ? -1 : n > 8 ? 8 : n < 5 ? 0 : n;
            CHECKS.due("first " + n + ": place", x.fault(1), place);
            CHECKS.due("first " + n + ": fault", x.fault(0), isWhole ? 0 : n < 13 ? 1 : 3);
            CHECKS.due("first " + n + ": seats", x.count(2), n == 8 ? 4 : 2);
        }
    }

    private static void textEmptiesTheTape() {
        CHECKS.says("3: (it is empty then)");
        HeavenStop x = new HeavenStop();
        Checks.feed(x, "seats 4;seats 5;");
        CHECKS.due("8 of 20", x.text(8), 1);
        CHECKS.due("no more bytes", x.text(1), -2);
        CHECKS.due("feed begins anew", Checks.feed(x, "seats 6;?"), 20);
        CHECKS.due("a fault", x.text(9), -1);
        CHECKS.due("no more bytes", x.text(1), -2);
        CHECKS.due("feed begins anew", Checks.feed(x, "seats 5;"), 20);
        CHECKS.due("none of 20", x.text(0), 0);
        CHECKS.due("no more bytes", x.text(1), -2);
        CHECKS.due("feed begins anew", Checks.feed(x, "seats 3;"), 20);
        CHECKS.due("8 of 20", x.text(8), 1);
        CHECKS.due("seats", x.count(2), 3);
    }

    private static void textBeginsAnew() {
        CHECKS.says("3: MINUTE 0, nobody there, nobody WET, PASSED, nothing SEEN, all KNOWN, no IMAGE, nothing to undo");
        String all = "soul a 0 7 5;soul b 0 3 5;soul c 0 2 5;soul d 0 2 5;bus k 0 30 1 1;rain 100;seats 0;";
        HeavenStop x = Checks.told(all);
        x.go(3);
        x.keep();
        x.off(1);
        x.give(2, 9);
        x.see(1, 0, true);
        x.see(1, 1, false);
        x.known(1);
        int[] before = {4, 1, 0, 0, 3, 2, 1, 1, 7, 9, 3, 2, 1, 2};
        int[] after = {4, 1, 0, 0, 0, 0, 0, 0, 0, 0, 0, 0, 0, 0};
        for (int i = 0; i < before.length; i++) {
            CHECKS.due("count " + i, x.count(i), before[i]);
        }
        CHECKS.due("told again", Checks.tell(x, all), 7);
        for (int i = 0; i < after.length; i++) {
            CHECKS.due("told again: count " + i, x.count(i), after[i]);
        }
        for (int i = 0; i < 4; i++) {
            CHECKS.due("not there " + i, Checks.soul(x, i, 0), 0);
            CHECKS.due("coins " + i, Checks.soul(x, i, 2), 5);
            CHECKS.due("dry " + i, Checks.soul(x, i, 3), 0);
            CHECKS.due("no place " + i, Checks.soul(x, i, 4), -2);
            CHECKS.due("not passed " + i, Checks.soul(x, i, 5), 0);
            CHECKS.due("no bus " + i, Checks.soul(x, i, 6), -2);
            CHECKS.due("with nobody " + i, Checks.soul(x, i, 7), 0);
        }
        CHECKS.due("no image", x.back(), -1);
        CHECKS.due("nothing to undo", x.undo(), -1);
        CHECKS.due("all known again: those to come, too", x.see(1, 0, false), 0);
        CHECKS.due("all known again: by 1", x.count(12), 1);
        // The numbers begin with the seed again.
        HeavenStop y = Checks.told("soul a 0 0 0;seats 0;rain 50;seed 7;");
        y.go(40);
        int wet = Checks.soul(y, 0, 3);
        Checks.tell(y, "soul a 0 0 0;seats 0;rain 50;seed 7;");
        y.go(40);
        CHECKS.due("the same rain", Checks.soul(y, 0, 3), wet);
    }

    private static void textLines() {
        CHECKS.says("3: how many LINES");
        fine("", 0);
        fine("seats 1;", 1);
        fine("seats 1;rain 1;", 2);
        HeavenStop x = fine(souls(8) + buses(4) + ring(8)
            + "seats 1;rain 2;seed 3;law may 1;law turn 2;law soak 3;", 26);
        CHECKS.due("souls", x.count(0), 8);
        CHECKS.due("buses", x.count(1), 4);
    }

    private static void textsAheadLeaveNothing() {
        CHECKS.says("3: The TAPE's first n bytes are the TEXT: nothing of a text ahead, faulty or not");
        String full = souls(8).replace("0 0 0", "0 9 9") + buses(4) + ring(8) + "seats 7;rain 30;seed 5;"
            + "law may wet<9;law turn kind;law soak 9;";
        String few = "soul q 0 0 0;bus q 9 1 1 0;";
        HeavenStop x = new HeavenStop();
        for (int i = 0; i < 4; i++) {
            // Two ahead of it, so that whatever is used again was told in full.
            CHECKS.due("full", Checks.tell(x, full), 26);
            CHECKS.due("full again", Checks.tell(x, i % 2 == 0 ? full : full + "?"), i % 2 == 0 ? 26 : -1);
            CHECKS.due("few", Checks.tell(x, few), 2);
            int[] counts = {1, 1, 2, 0, 0, 0, 0, 0, 0, 0, 0, 0, 0, 0};
            for (int what = 0; what < counts.length; what++) {
                CHECKS.due("count " + what, x.count(what), counts[what]);
            }
            CHECKS.due("no rain", x.dry(1, 0), 1);
            CHECKS.due("no lets", x.lets(0), 0);
            CHECKS.due("no soul a", x.named(0, 1 << 25), -1);
            CHECKS.due("no soul h", x.named(0, 8 << 25), -1);
            CHECKS.due("no bus a", x.named(1, 1 << 25), -1);
            for (int law = 0; law < 3; law++) {
                CHECKS.due("no law " + law, x.law(law, 0, 0), Long.MIN_VALUE);
            }
            CHECKS.due("no coins", Checks.soul(x, 0, 2), 0);
            // Seed 0: it rains in the first minute by 1 of a hundred.
            Checks.tell(x, full);
            Checks.tell(x, full + "?");
            Checks.tell(x, "soul a 0 0 0;seats 0;rain 1;");
            x.go(1);
            CHECKS.due("seed 0", Checks.soul(x, 0, 3), 1);
            // What may be told once, or eight times, may be told as often again.
            CHECKS.due("full", Checks.tell(x, full), 26);
        }
    }

    private static void textFaultAllStays() {
        CHECKS.says("3: NONE with a FAULT, all stays");
        HeavenStop x = Checks.told("soul a 0 7 5;soul b 0 3 5;bus k 0 30 1 1;rain 100;seats 1;law soak 4;lets b a;");
        x.go(2);
        x.keep();
        x.give(1, 2);
        x.see(1, 0, true);
        x.see(2, 0, true);
        x.known(1);
        int[] counts = new int[14];
        for (int i = 0; i < counts.length; i++) {
            counts[i] = x.count(i);
        }
        CHECKS.due("faulty", Checks.tell(x, "soul c 1 1 1;seats 3;rain 9;law soak 1+2;bus l 9 9 9 9;"), -1);
        for (int i = 0; i < counts.length; i++) {
            CHECKS.due("count " + i, x.count(i), counts[i]);
        }
        CHECKS.due("soul a", x.named(0, Checks.letters("a")), 0);
        CHECKS.due("no soul c", x.named(0, Checks.letters("c")), -1);
        CHECKS.due("no bus l", x.named(1, Checks.letters("l")), -1);
        CHECKS.due("bus", x.bus(0, 1), 30);
        CHECKS.due("lets", x.lets(1), 1);
        CHECKS.due("law", x.law(2, 0, 0), 4);
        CHECKS.due("rain", x.dry(1, 0), 0);
        CHECKS.due("undo", x.undo(), 0);
        CHECKS.due("image", x.back(), 2);
    }

    private static void textNotSoMany() {
        CHECKS.says("3: -2, and the TAPE stays: there are not so many, n is below 0");
        HeavenStop x = new HeavenStop();
        Checks.feed(x, "seats 4;soul a 0 0 0");
        for (int n : new int[] {-1, 21, Integer.MIN_VALUE, Integer.MAX_VALUE}) {
            CHECKS.due("text " + n, x.text(n), -2);
        }
        CHECKS.due("40", Checks.feed(x, ";"), 40);
        CHECKS.due("41", x.text(41), -2);
        CHECKS.due("-1", x.text(-1), -2);
        CHECKS.due("all stays", x.count(0), 0);
        CHECKS.due("40 of 40", x.text(40), 2);
        CHECKS.due("all is told", x.count(0), 1);
        CHECKS.due("1 of 0", x.text(1), -2);
        CHECKS.due("-1 of 0", x.text(-1), -2);
        CHECKS.due("the text stays", x.count(0), 1);
        CHECKS.due("0 of 0", x.text(0), 0);
        CHECKS.due("no text any more", x.count(0), 0);
    }

    private static void faultOfTheLatest() {
        CHECKS.says("4: Of the latest text() that was not -2");
        HeavenStop x = new HeavenStop();
        CHECKS.due("at first", x.fault(0), 0);
        CHECKS.due("at first: place", x.fault(1), -1);
        Checks.tell(x, "seats 9;");
        CHECKS.due("a fault", x.fault(0), 2);
        CHECKS.due("a fault: place", x.fault(1), 6);
        CHECKS.due("-2", x.text(1), -2);
        CHECKS.due("stays", x.fault(0), 2);
        CHECKS.due("stays: place", x.fault(1), 6);
        CHECKS.due("-2", x.text(-1), -2);
        CHECKS.due("stays", x.fault(0), 2);
        x.go(3);
        CHECKS.due("go leaves it", x.fault(1), 6);
        Checks.tell(x, "?");
        CHECKS.due("another fault", x.fault(0), 1);
        CHECKS.due("another fault at 0", x.fault(1), 0);
        Checks.tell(x, "seats 8;");
        CHECKS.due("none", x.fault(0), 0);
        CHECKS.due("none: place", x.fault(1), -1);
        CHECKS.due("-2", x.text(1), -2);
        CHECKS.due("none still", x.fault(0), 0);
    }

    private static void faultWhat() {
        CHECKS.says("4: NONE for another what");
        HeavenStop x = new HeavenStop();
        Checks.tell(x, "seats 9;");
        CHECKS.range("fault", 0, 1, -1, x::fault);
    }

    private static void namedLetters() {
        CHECKS.says("5: 5 bits each (a is 1; the first one highest of six, 0 behind the last one)");
        HeavenStop x = Checks.told("soul a 0 0 0;soul z 0 0 0;soul zzzzzz 0 0 0;soul aaaaaa 0 0 0;soul abcde 0 0 0;"
            + "bus aa 0 1 1 0;bus za 0 1 1 0;");
        CHECKS.due("a", x.named(0, 1 << 25), 0);
        CHECKS.due("z", x.named(0, 26 << 25), 1);
        CHECKS.due("zzzzzz", x.named(0, 0x35ad6b5a), 2);
        CHECKS.due("aaaaaa", x.named(0, 0x02108421), 3);
        CHECKS.due("abcde", x.named(0, 1 << 25 | 2 << 20 | 3 << 15 | 4 << 10 | 5 << 5), 4);
        CHECKS.due("bus aa", x.named(1, 1 << 25 | 1 << 20), 0);
        CHECKS.due("bus za", x.named(1, 26 << 25 | 1 << 20), 1);
        CHECKS.due("a at the end", x.named(0, 1), -1);
        CHECKS.due("one less than zzzzzz", x.named(0, 0x35ad6b59), -1);
        CHECKS.due("one more than zzzzzz", x.named(0, 0x35ad6b5b), -1);
        CHECKS.due("above 30 bits", x.named(0, 1 << 25 | 1 << 30), -1);
        CHECKS.due("the sign's bit", x.named(0, 1 << 25 | 1 << 31), -1);
        CHECKS.due("aa is no soul", x.named(0, 1 << 25 | 1 << 20), -1);
    }

    private static void namedNone() {
        CHECKS.says("5: The number of a SOUL (what 0), a BUS (1); NONE: there is none such");
        HeavenStop x = Checks.told(souls(8) + buses(4));
        CHECKS.range("a of", 0, 1, -1, what -> x.named(what, 1 << 25));
        CHECKS.due("the last soul", x.named(0, 8 << 25), 7);
        CHECKS.due("no ninth soul", x.named(0, 9 << 25), -1);
        CHECKS.due("the last bus", x.named(1, 4 << 25), 3);
        CHECKS.due("no fifth bus", x.named(1, 5 << 25), -1);
        CHECKS.due("no letters", x.named(0, 0), -1);
        CHECKS.due("no letters", x.named(1, 0), -1);
        HeavenStop y = Checks.told(souls(1));
        CHECKS.due("no letters where there is room", y.named(0, 0), -1);
        CHECKS.due("no letters where there is room", y.named(1, 0), -1);
    }

    // ---- the text's words and signs ----

    private static void wordsOfLetters() {
        CHECKS.says("W: one of 1 .. 6 letters (1 .. a word of more than 6 letters that is none of the language, too)");
        fine("soul a 0 0 0;", 1);
        fine("soul abcde 0 0 0;", 1);
        fine("soul abcdef 0 0 0;", 1);
        fault("soul abcdefg 0 0 0;", 1, 5);
        fault("soul abcdefghijklmnopqrstuvwxyz 0 0 0;", 1, 5);
        fault("soul 0 0 0;", 1, 5);
        fine("bus abcdef 0 1 1 0;", 1);
        fault("bus abcdefg 0 1 1 0;", 1, 4);
        fine("soul abcdef 0 0 0;soul b 0 0 0;lets abcdef b;", 3);
        fault("soul abcdef 0 0 0;soul b 0 0 0;lets abcdefg b;", 1, 36);
        fault("soul abcdef 0 0 0;soul b 0 0 0;lets b abcdefg;", 1, 38);
        // The first six letters alone are no name of it, nor a word of the language.
        fault("soul minutes 0 0 0;", 1, 5);
        fault("law may minutes;", 1, 8);
        fault("seatsss 1;", 1, 0);
        // Letters are a .. z alone.
        fault("soul ` 0 0 0;", 1, 5);
        fault("soul { 0 0 0;", 1, 5);
        fault("soul A 0 0 0;", 1, 5);
        fault("soul aZ 0 0 0;", 1, 6);
        fine("soul az 0 0 0;", 1);
    }

    private static void wordsOfTheLanguage() {
        CHECKS.says("W: none of those of the language");
        for (String word : WORDS.split(" ")) {
            fault("soul " + word + " 0 0 0;", 1, 5);
            fault("bus " + word + " 0 1 1 0;", 1, 4);
            String less = word.substring(0, word.length() - 1);
            // One letter less or another one behind it is a name (no such part is a word of the language).
            fine("soul " + less + " 0 0 0;bus " + less + " 0 1 1 0;", 2);
            if (word.length() < 6) {
                fine("soul " + word + "q 0 0 0;bus " + word + "q 0 1 1 0;", 2);
            }
        }
    }

    private static void digits() {
        CHECKS.says("N: digits");
        fine("soul a 0 00 000;", 1);
        HeavenStop x = fine("soul a 00000000000000000000000000000000000000 0000000099 01;", 1);
        CHECKS.due("99", Checks.soul(x, 0, 1), 99);
        CHECKS.due("1", Checks.soul(x, 0, 2), 1);
        fault("soul a / 0 0;", 1, 7);
        fault("soul a : 0 0;", 1, 7);
        fault("soul a 0 0 9:;", 1, 12);
        fault("soul a 0 0 9/;", 1, 12);
        fine("soul a 9 9 9;", 1);
        // Beyond an int and a long it is too much, not small again.
        fault("seed 4294967296;", 2, 5);
        fault("seed 4294967297;", 2, 5);
        fault("seed 2147483648;", 2, 5);
        fault("seed 18446744073709551616;", 2, 5);
        fault("law may 4294967296;", 2, 8);
        fault("soul a 4294967296 0 0;", 2, 7);
        fault("bus a 0 4294967297 1 0;", 2, 8);
        fault("seats " + times("1", 300) + ";", 2, 6);
        fine("seats " + times("0", 300) + "8;", 1);
    }

    private static void blanks() {
        CHECKS.says("Blanks 10, 32");
        for (int sign = 0; sign < 256; sign++) {
            String text = "seats" + (char) sign + "3;";
            boolean isDigit = sign >= '0' && sign <= '9';
            boolean isLetter = sign >= 'a' && sign <= 'z';
            if (sign == 10 || sign == 32) {
                CHECKS.due("seats", fine(text, 1).count(2), 3);
            } else if (isDigit) {
                // 03 .. 93
                if (sign == '0') {
                    fine(text, 1);
                } else {
                    fault(text, 2, 5);
                }
            } else {
                fault(text, 1, isLetter ? 0 : 5);
            }
        }
        fine("\n\n  \n", 0);
        fine("seats3;", 1);
        fine(" \nseats \n3 \n; \n", 1);
    }

    private static void oneComparison() {
        CHECKS.says("C: S [ ( < | <= | = | <> | >= | > ) S ]");
        for (String sign : new String[] {"<", "<=", "=", "<>", ">=", ">"}) {
            fine("law may 1;", 1);
            fine("law may 1" + sign + "2;", 1);
            fault("law may 1" + sign + "2" + sign + "3;", 1, 10 + sign.length());
            fine("law may (1" + sign + "2)" + sign + "3;", 1);
            fine("law may 1" + sign + "(2" + sign + "3);", 1);
            fine("law may 1" + sign + "2 and 2" + sign + "3;", 1);
            fine("law may 1" + sign + "2 or 2" + sign + "3;", 1);
            fine("law may not 1" + sign + "2;", 1);
            fault("law may not 1" + sign + "2" + sign + "3;", 1, 14 + sign.length());
            fault("law may 1" + sign + "(2" + sign + "3)" + sign + "4;", 1, 13 + 2 * sign.length());
            fault("law may 1" + sign + "2+2*2" + sign + "3;", 1, 14 + sign.length());
            fault("law may (1" + sign + "2" + sign + "3);", 1, 11 + sign.length());
            fault("law may 1" + sign + ";", 1, 9 + sign.length());
            fault("law may " + sign + "1;", 1, 8);
        }
    }

    private static void notOnlyAheadOfB() {
        CHECKS.says("B: not B | C");
        fine("law may not 1;", 1);
        fine("law may not not 1;", 1);
        fine("law may 1 and not 1 or not 1;", 1);
        fine("law may (not 1)+(not 1)*(not 1);", 1);
        fault("law may 1+not 1;", 1, 10);
        fault("law may 1*not 1;", 1, 10);
        fault("law may 1=not 1;", 1, 10);
        fault("law may 1 and 1+not 1;", 1, 16);
        fault("law may not;", 1, 11);
        fault("law may not and 1;", 1, 12);
        fault("law may 1 not;", 1, 10);
        fault("law may (1)not 1;", 1, 11);
    }

    private static void lawIs(String e, long want) {
        CHECKS.due(e, Checks.told("soul a 0 0 0;law soak " + e + ";").law(2, 0, 0), want);
    }

    private static void lawsOneBehindAnother() {
        CHECKS.says("law RULE E: each begins anew");
        // A comparison, a not, an and in each of three: none of them is another one's.
        for (String e : new String[] {"1<2", "not 0", "1 and 1", "(1<2)", "1<2 and 1<2", "not 1>2", "0 or 1=1"}) {
            HeavenStop x = fine("soul a 0 0 0;bus k 0 1 1 0;law soak " + e + ";law may " + e + ";law turn " + e + ";", 5);
            for (int law = 0; law < 3; law++) {
                CHECKS.due(e + ": law " + law, x.law(law, 0, 0), 1);
            }
        }
        // In whatever row they come, each is its own.
        String[] rows = {"may turn soak", "may soak turn", "turn may soak", "turn soak may", "soak may turn", "soak turn may"};
        for (String row : rows) {
            String text = "soul a 0 0 0;bus k 0 1 1 0;";
            for (String rule : row.split(" ")) {
                text += "law " + rule + " " + (rule.equals("may") ? "10+1" : rule.equals("turn") ? "20*2" : "5") + ";";
            }
            HeavenStop x = fine(text, 5);
            CHECKS.due(row + ": may", x.law(0, 0, 0), 11);
            CHECKS.due(row + ": turn", x.law(1, 0, 0), 40);
            CHECKS.due(row + ": soak", x.law(2, 0, 0), 5);
        }
        // not is of the whole comparison, and of nothing behind it.
        lawIs("not 1=2", 1);
        lawIs("(not 1)=2", 0);
        lawIs("not 0 and 0", 0);
        lawIs("not 1 or 1", 1);
        lawIs("not 2>1", 0);
        lawIs("not 1+1", 0);
        lawIs("1 and not 0=1 or 0", 1);
        fault("law may abc;", 1, 8);
        fault("law may 1+abc;", 1, 10);
    }

    private static void faultyLawsLeaveNothing() {
        CHECKS.says("law RULE E: nothing of a faulty one is in the next one");
        String[] faulty = {"1+", "1+2*", "not", "not not 1 and", "1 or", "(", "((((((((", "1<", "1<2<", "(1<2<", "1+(", "(1+",
            "1<(2<", "(((1<2)<3)<4<", "1 2", "1 and not", "10000"};
        for (String one : faulty) {
            HeavenStop x = new HeavenStop();
            // More often than there are open signs that could be left.
            for (int i = 0; i < 80; i++) {
                CHECKS.due(one, Checks.tell(x, "law may " + one), -1);
            }
            CHECKS.due("behind " + one, Checks.tell(x, "soul a 0 0 0;law soak 5;"), 2);
            CHECKS.due("5 behind " + one, x.law(2, 0, 0), 5);
            CHECKS.due("a knot behind " + one, x.count(3), 1);
            Checks.tell(x, "law may " + one);
            CHECKS.due("behind " + one, Checks.tell(x, "soul a 0 0 0;law soak not 1<2 or 3<4;"), 2);
            CHECKS.due("1 behind " + one, x.law(2, 0, 0), 1);
            Checks.tell(x, "law may " + one);
            CHECKS.due("behind " + one, Checks.tell(x, "law soak 1);"), -1);
            CHECKS.due("no '(' is open behind " + one, x.fault(1), 10);
            Checks.tell(x, "law may " + one);
            CHECKS.due("behind " + one, Checks.tell(x, "soul a 0 0 0;law soak ((((((((7))))))));"), 2);
            CHECKS.due("7 behind " + one, x.law(2, 0, 0), 7);
        }
    }

    private static void signsOfTwo() {
        CHECKS.says("A = (or > behind <) right behind < or > belongs to it");
        fine("law may 1<=2;", 1);
        fine("law may 1>=2;", 1);
        fine("law may 1<>2;", 1);
        fault("law may 1< =2;", 1, 11);
        fault("law may 1> =2;", 1, 11);
        fault("law may 1< >2;", 1, 11);
        fault("law may 1><2;", 1, 10);
        fault("law may 1=<2;", 1, 10);
        fault("law may 1=>2;", 1, 10);
        fault("law may 1==2;", 1, 10);
        fault("law may 1<==2;", 1, 11);
        fault("law may 1<>=2;", 1, 11);
        fault("law may 1>>2;", 1, 10);
        fault("law may 1<<2;", 1, 10);
        fault("law may 1<", 1, 10);
        fault("law may 1<=", 1, 11);
        CHECKS.due("a knot for both", fine("law may 1<=2;", 1).count(3), 3);
        CHECKS.due("a knot for both", fine("law may 1<>2;", 1).count(3), 3);
        // The text ends between the two: the '=' behind it on the tape is not the text's.
        HeavenStop x = new HeavenStop();
        Checks.feed(x, "law may 1<=2;");
        CHECKS.due("cut", x.text(10), -1);
        CHECKS.due("cut: more must come", x.fault(1), 10);
    }

    private static void numbersOfE() {
        CHECKS.says("N of E 0 .. 9999");
        HeavenStop x = Checks.told("soul a 0 0 0;law soak 9998;");
        CHECKS.due("9998", x.law(2, 0, 0), 9998);
        CHECKS.due("9999", Checks.tell(x, "soul a 0 0 0;law soak 9999;"), 2);
        CHECKS.due("9999", x.law(2, 0, 0), 9999);
        CHECKS.due("0", Checks.tell(x, "soul a 0 0 0;law soak 0;"), 2);
        CHECKS.due("0", x.law(2, 0, 0), 0);
        fault("law may 10000;", 2, 8);
        fault("law may 1+10000;", 2, 10);
        fault("law may -1;", 1, 8);
        fine("law may 00009999;", 1);
    }

    // ---- how many, and how much ----

    private static void souls() {
        CHECKS.says("SOULS, at most 8; a ninth soul (at the word of the LINE)");
        for (int many = 0; many <= 8; many++) {
            CHECKS.due("souls", fine(souls(many), many).count(0), many);
        }
        fault(souls(9), 2, 104);
        fault(souls(8) + "  soul", 2, 106);
        fault(souls(8) + "soul a 0 0 0;", 2, 104);
        fault(souls(8) + "soul ?", 2, 104);
    }

    private static void soulNumber(String form, int place, int what) {
        for (int n : new int[] {0, 1, 98, 99}) {
            HeavenStop x = fine(String.format(form, n), 1);
            if (what >= 0) {
                CHECKS.due("it is", Checks.soul(x, 0, what), n);
            }
        }
        fault(String.format(form, 100), 2, place);
        fault(String.format(form, 101), 2, place);
        fault(String.format(form, 1000), 2, place);
        fault(String.format(form, -1), 1, place);
    }

    private static void died() {
        CHECKS.says("DIED at a MINUTE 0 .. 99");
        soulNumber("soul s %d 0 0;", 7, -1);
        for (int minute : new int[] {0, 1, 99}) {
            HeavenStop x = Checks.told("soul s " + minute + " 0 0;");
            x.go(minute);
            CHECKS.due("not there at " + minute, Checks.soul(x, 0, 0), 0);
            x.go(1);
            CHECKS.due("there behind " + minute, Checks.soul(x, 0, 0), 1);
        }
    }

    private static void kindness() {
        CHECKS.says("KINDNESS 0 .. 99");
        soulNumber("soul s 0 %d 0;", 9, 1);
    }

    private static void coins() {
        CHECKS.says("COINS 0 .. 99");
        soulNumber("soul s 0 0 %d;", 11, 2);
    }

    private static void buses() {
        CHECKS.says("BUSES, at most 4; a fifth (at the word of the LINE)");
        for (int many = 0; many <= 4; many++) {
            CHECKS.due("buses", fine(buses(many), many).count(1), many);
        }
        fault(buses(5), 2, 56);
        fault(buses(4) + "\nbus", 2, 57);
        fault(buses(4) + "bus a", 2, 56);
    }

    private static void busNumber(String form, int place, int what, int least, int most) {
        for (int n : new int[] {least, least + 1, most - 1, most}) {
            CHECKS.due("it is", fine(String.format(form, n), 1).bus(0, what), n);
        }
        fault(String.format(form, most + 1), 2, place);
        fault(String.format(form, most + 2), 2, place);
        fault(String.format(form, least - 1), least == 0 ? 1 : 2, place);
        fault(String.format(form, 2000000), 2, place);
    }

    private static void first() {
        CHECKS.says("the first time at a MINUTE 0 .. 99");
        busNumber("bus b %d 1 1 0;", 6, 0, 0, 99);
    }

    private static void every() {
        CHECKS.says("EVERY 1 .. 30 MINUTES");
        busNumber("bus b 0 %d 1 0;", 8, 1, 1, 30);
    }

    private static void room() {
        CHECKS.says("ROOM 1 .. 8");
        busNumber("bus b 0 1 %d 0;", 10, 2, 1, 8);
    }

    private static void fare() {
        CHECKS.says("FARE 0 .. 99");
        busNumber("bus b 0 1 1 %d;", 12, 3, 0, 99);
    }

    private static void lets() {
        CHECKS.says("lets, at most 8; a ninth (at the word of the LINE)");
        fine(souls(8) + ring(7), 15);
        HeavenStop x = fine(souls(8) + ring(8), 16);
        for (int i = 0; i < 8; i++) {
            CHECKS.due("lets " + i, x.lets(i), 1 << (i + 1) % 8);
        }
        fault(souls(8) + ring(8) + "lets a c;", 2, 176);
        fault(souls(8) + ring(8) + "lets", 2, 176);
        // Too much at the word is ahead of what is told already at the second W.
        fault(souls(8) + ring(8) + "lets a b;", 2, 176);
        // One may let seven others, eight in all.
        StringBuilder all = new StringBuilder(souls(8));
        for (int i = 1; i < 8; i++) {
            all.append("lets a ").append((char) ('a' + i)).append(';');
        }
        CHECKS.due("all seven others", fine(all.toString(), 15).lets(0), 254);
        fine(all + "lets h a;", 16);
        fault(all + "lets h a;lets h b;", 2, 104 + 72);
    }

    private static void seats() {
        CHECKS.says("seats: 0 .. 8 (2 without)");
        CHECKS.due("without", fine("", 0).count(2), 2);
        for (int n : new int[] {0, 1, 2, 7, 8}) {
            CHECKS.due("seats", fine("seats " + n + ";", 1).count(2), n);
        }
        fault("seats 9;", 2, 6);
        fault("seats 10;", 2, 6);
        fault("seats -1;", 1, 6);
        HeavenStop x = fine("seats 8;", 1);
        Checks.tell(x, "rain 3;");
        CHECKS.due("without again", x.count(2), 2);
    }

    private static void rain() {
        CHECKS.says("rain: of a hundred 0 .. 100 (0)");
        CHECKS.due("without", fine("", 0).dry(1, 0), 1);
        CHECKS.due("0", fine("rain 0;", 1).dry(1, 0), 1);
        CHECKS.due("1", fine("rain 1;", 1).dry(1, 0), 99);
        CHECKS.due("99", fine("rain 99;", 1).dry(1, 1), 100);
        CHECKS.due("100", fine("rain 100;", 1).dry(1, 0), 0);
        fault("rain 101;", 2, 5);
        fault("rain 102;", 2, 5);
        fault("rain -1;", 1, 5);
    }

    private static void seed() {
        CHECKS.says("seed: 0 .. 99999 (0)");
        fine("seed 0;", 1);
        fine("seed 99998;", 1);
        fine("seed 99999;", 1);
        fault("seed 100000;", 2, 5);
        fault("seed 100001;", 2, 5);
        fault("seed 1000000;", 2, 5);
        fault("seed 1000001;", 2, 5);
        fault("seed -1;", 1, 5);
        // 0 without: rain of a hundred 1 falls in the first minute by seed 0 (12345 by 65536 is 0).
        HeavenStop x = Checks.told("soul a 0 0 0;seats 0;rain 1;");
        x.go(1);
        CHECKS.due("seed 0 without", Checks.soul(x, 0, 3), 1);
        x = Checks.told("soul a 0 0 0;seats 0;rain 1;seed 1;");
        x.go(1);
        CHECKS.due("seed 1", Checks.soul(x, 0, 3), 0);
        Checks.tell(x, "soul a 0 0 0;seats 0;rain 1;");
        x.go(1);
        CHECKS.due("seed 0 without again", Checks.soul(x, 0, 3), 1);
    }

    private static void namesOfTheirKind() {
        CHECKS.says("All numbered as they come; SOULS, BUSES have names of their kind");
        HeavenStop x = fine("bus b 0 1 1 0;soul b 0 0 0;soul a 0 0 0;bus a 0 1 1 0;", 4);
        CHECKS.due("soul b", x.named(0, 2 << 25), 0);
        CHECKS.due("soul a", x.named(0, 1 << 25), 1);
        CHECKS.due("bus b", x.named(1, 2 << 25), 0);
        CHECKS.due("bus a", x.named(1, 1 << 25), 1);
    }

    // ---- faults ----

    private static void firstAlongTheText() {
        CHECKS.says("FAULTS, the first along the text, with its place");
        // 5, 4, 3, 2, 1 one behind another: the one ahead counts, whatever its number.
        String five = "lets a a;";
        String four = "lets a z;";
        String three = "seats 1;";
        String two = "rain 101;";
        String one = "?";
        String ahead = "soul a 0 0 0;seats 0;";
        fault(ahead + five + four + three + two + one, 5, 21 + 7);
        fault(ahead + four + three + two + one + five, 4, 21 + 7);
        fault(ahead + three + two + one + five + four, 3, 21);
        fault(ahead + two + one + five + four + three, 2, 21 + 5);
        fault(ahead + one + five + four + three + two, 1, 21);
        fault("seats 9 9;", 2, 6);
        fault("soul a 100 100 100;", 2, 7);
        fault("soul a 0 100 100;", 2, 9);
        fault("soul abcdefg 100 0 0;", 1, 5);
        fault("bus b 100 0 0 100;", 2, 6);
        fault("bus b 0 0 0 100;", 2, 8);
        fault("bus b 0 1 0 100;", 2, 10);
        fault("lets x y;", 4, 5);
    }

    private static void ofOnePlaceTheLeast() {
        CHECKS.says("of one place the least");
        // A number above 9999 (2) that can't stand there (1).
        fault("law may 1 10000;", 1, 10);
        // A ninth '(' (2) that can't stand there (1), and one that can.
        fault("law may ((((((((1(", 1, 17);
        fault("law may (((((((((", 2, 16);
        // A 65th knot (2) that can't stand there (1), and one that can.
        String full = "law may not 1" + times("+1", 31);
        fault(full + " 1;", 1, 75 + 1);
        fault(full + " not 1;", 1, 75 + 1);
        fault(full + "+1;", 2, 75);
        fault(full + " and 1;", 2, 76);
        // A number of a soul that is too much, where a word is due.
        fault("soul 100 0 0 0;", 1, 5);
        fault("lets 100 a;", 1, 5);
        // A second W that is no word, behind a first one that is told.
        fault("soul a 0 0 0;lets a soul;", 1, 20);
    }

    private static void noToken() {
        CHECKS.says("1 a TOKEN that is none or can't stand there");
        for (int sign = 1; sign < 256; sign++) {
            boolean isAny = sign >= '0' && sign <= '9' || sign >= 'a' && sign <= 'z' || sign == 10 || sign == 32;
            if (!isAny) {
                fault((char) sign + "seats 1;", 1, 0);
                fault("seats 1;" + (char) sign, 1, 8);
            }
        }
        fault("seats 1 1;", 1, 8);
        fault("seats 1", 1, 7);
        fault("seats;", 1, 5);
        fault("seats a;", 1, 6);
        fault("soul a 0 0 0 0;", 1, 13);
        fault("soul a 0 0;", 1, 10);
        fault("bus a 0 1 1 0 0;", 1, 14);
        fault("bus a 0 1 1;", 1, 11);
        fault("soul a 0 0 0;soul b 0 0 0;lets a b a;", 1, 35);
        fault("soul a 0 0 0;soul b 0 0 0;lets a;", 1, 32);
        fault("law 1;", 1, 4);
        fault("law soul 1;", 1, 4);
        fault("law or 1;", 1, 4);
        fault("law may turn;", 1, 8);
        fault("law may minute soak;", 1, 15);
        fault("turn 1;", 1, 0);
        fault("kind 1;", 1, 0);
        fault("law may 1));", 1, 9);
        fault("law may (1));", 1, 11);
        fine("law may (1);", 1);
    }

    private static void theLength() {
        CHECKS.says("1 (the length, if more must come)");
        String line = "bus red 2 3 1 2;";
        // Behind each part of the line: cut at a blank or at a word's end more must come.
        for (int n : new int[] {3, 4, 7, 8, 9, 10, 11, 12, 13, 14, 15}) {
            fault(line.substring(0, n), 1, n);
            fault(line.substring(0, n) + "  ", 1, n + 2);
            fault(line.substring(0, n) + "\n", 1, n + 1);
        }
        fine(line, 1);
        fine(line + "  ", 1);
        fault("law may (1", 1, 10);
        fault("law may (1)", 1, 11);
        fault("law may", 1, 7);
        fault("law", 1, 3);
        // The length is n, not what the tape has.
        HeavenStop x = new HeavenStop();
        Checks.feed(x, "seats 1; seats");
        CHECKS.due("seven", x.text(7), -1);
        CHECKS.due("seven: place", x.fault(1), 7);
        Checks.feed(x, "seats 12;");
        CHECKS.due("seven of nine", x.text(7), -1);
        CHECKS.due("seats 1 was read, then more must come", x.fault(1), 7);
        CHECKS.due("seats 1 was read, then more must come", x.fault(0), 1);
        // A tape that is full to the brim.
        fault("seats 1" + times(" ", 693), 1, 700);
        fine("seats 1" + times(" ", 692) + ";", 1);
        fault("law may" + times(" ", 691) + "1<", 1, 700);
        fault("law may" + times(" ", 691) + "1>", 1, 700);
        fault("law may" + times(" ", 692) + "1", 1, 700);
        fault("law" + times(" ", 694) + "may", 1, 700);
    }

    private static void ninthOpen() {
        CHECKS.says("2 a ninth '(' open");
        for (int open = 1; open <= 8; open++) {
            fine("law may " + times("(", open) + "1" + times(")", open) + ";", 1);
        }
        fault("law may " + times("(", 9) + "1" + times(")", 9) + ";", 2, 16);
        fault("law may " + times("(", 9), 2, 16);
        // Of those that are open: what is closed doesn't count.
        fine("law may " + times("(1)+", 9) + "1;", 1);
        fine("law may ((((((((1)+(2)))))))+(3));", 1);
        fault("law may ((((((((1)+((2", 2, 20);
        fine("law may ((((((((1))))))));law turn ((((((((1))))))));", 2);
    }

    private static void knotsAre() {
        CHECKS.says("KNOT of all E (N, NAMES, signs, not, and, or: one each)");
        String[] one = {"1", "9999", "(1)", "((kind))", "kind", "coins", "wet", "wait", "fare", "place", "minute"};
        for (String e : one) {
            CHECKS.due(e, fine("law may " + e + ";", 1).count(3), 1);
        }
        for (String sign : new String[] {"+", "-", "*", "/", "<", "<=", "=", "<>", ">=", ">", " and ", " or "}) {
            CHECKS.due(sign, fine("law may 1" + sign + "2;", 1).count(3), 3);
        }
        CHECKS.due("not", fine("law may not 1;", 1).count(3), 2);
        CHECKS.due("not not", fine("law may not not 1;", 1).count(3), 3);
        CHECKS.due("of all", fine("law may 1;law turn 1+1;law soak not 1;", 3).count(3), 6);
    }

    private static void sixtyFifthKnot() {
        CHECKS.says("2 a 65th KNOT of all E");
        String row = "1" + times("+1", 31);
        CHECKS.due("63", fine("law may " + row + ";", 1).count(3), 63);
        CHECKS.due("64", fine("law may not " + row + ";", 1).count(3), 64);
        fault("law may not not " + row + ";", 2, 16 + 62);
        fault("law may " + row + "+1;", 2, 8 + 64);
        fault("law may " + row + "+kind;", 2, 8 + 64);
        fault("law may not " + row + "+1;", 2, 12 + 63);
        fault("law may not " + row + "<1;", 2, 12 + 63);
        fault("law may not " + row + " or 1;", 2, 12 + 64);
        // Over several laws, in whatever row: 1 and 59 and 4.
        String three = "law soak 1;law may " + times("1+", 29) + "1;law turn not 1+1";
        CHECKS.due("64 of three", fine(three + ";", 3).count(3), 64);
        fault(three + "-1;", 2, three.length());
        fault("law soak 1+1+1;law may " + times("1+", 29) + "1;law turn 1", 2, 8 + 7 + 8 + 59 + 1 + 9);
        // A text ahead, faulty or not, uses up none of them.
        HeavenStop x = new HeavenStop();
        for (int i = 0; i < 3; i++) {
            CHECKS.due("faulty", Checks.tell(x, "law soak not " + row + "+1;"), -1);
            CHECKS.due("64 again", Checks.tell(x, "soul a 0 0 0;law soak not " + row + ";"), 2);
            CHECKS.due("64 again", x.count(3), 64);
            CHECKS.due("its E", x.law(2, 0, 0), 0);
        }
        // The deepest rows of open signs and of values that 64 knots allow.
        CHECKS.due("63 nots", Checks.tell(x, "soul a 0 0 0;law soak " + times("not ", 63) + "0;"), 2);
        CHECKS.due("63 nots", x.law(2, 0, 0), 1);
        fault("law soak " + times("not ", 64) + "0;", 2, 9 + 256);
        CHECKS.due("six '('", Checks.tell(x, "soul a 0 0 0;law soak " + times("1 or 1 and 1=1+1*(", 6) + "0))))));"), 2);
        CHECKS.due("six '('", x.law(2, 0, 0), 1);
    }

    private static void toldAlreadyNames() {
        CHECKS.says("3 told already: a name of its kind (at W)");
        fault("soul a 0 0 0;soul a 0 0 0;", 3, 18);
        fine("soul a 0 0 0;soul aa 0 0 0;", 2);
        fine("soul a 0 0 0;bus a 0 1 1 0;", 2);
        fault("bus a 0 1 1 0;bus a 0 1 1 0;", 3, 18);
        fault(souls(7) + "soul a 0 0 0;", 3, 96);
        fault(souls(7) + "soul g 0 0 0;", 3, 96);
        fine(souls(7) + "soul h 0 0 0;", 8);
        fault(buses(3) + "bus c 0 1 1 0;", 3, 46);
        fine("soul abcdef 0 0 0;soul abcdeg 0 0 0;soul abcde 0 0 0;", 3);
        fault("soul abcdef 0 0 0;soul abcdef", 3, 23);
        // At W, ahead of the numbers behind it.
        fault("soul a 0 0 0;soul a 100 0 0;", 3, 18);
    }

    private static void toldAlreadyLets() {
        CHECKS.says("3 lets of the same two (at the second W)");
        String two = "soul a 0 0 0;soul b 0 0 0;soul c 0 0 0;";
        fault(two + "lets a b;lets a b;", 3, 55);
        fine(two + "lets a b;lets b a;", 5);
        fine(two + "lets a b;lets a c;lets c b;", 6);
        fault(two + "lets a b;lets a c;lets a b", 3, 64);
    }

    private static void toldAlreadyOnce() {
        CHECKS.says("3 seats, rain, seed (at the word)");
        for (String word : new String[] {"seats", "rain", "seed"}) {
            fine(word + " 1;", 1);
            fault(word + " 1;" + word + " 1;", 3, word.length() + 3);
            fault(word + " 1;" + word, 3, word.length() + 3);
            fault(word + " 0;" + word + " 0;", 3, word.length() + 3);
        }
        fine("seats 1;rain 1;seed 1;", 3);
        fault("seats 1;rain 1;seed 1;rain 1;", 3, 22);
    }

    private static void toldAlreadyLaws() {
        CHECKS.says("3 a law of its RULE (at RULE)");
        for (String rule : new String[] {"may", "turn", "soak"}) {
            fine("law " + rule + " 0;", 1);
            fault("law " + rule + " 0;law " + rule + " 0;", 3, 11 + rule.length());
            fault("law " + rule + " 0;law " + rule, 3, 11 + rule.length());
        }
        fine("law may 0;law turn 0;law soak 0;", 3);
        fault("law may 0;law turn 0;law soak 0;law turn 1;", 3, 36);
    }

    private static void notToldAhead() {
        CHECKS.says("4 a SOUL that isn't told ahead (at W)");
        String two = "soul a 0 0 0;soul b 0 0 0;";
        fine(two + "lets a b;", 3);
        fault("soul a 0 0 0;lets a b;soul b 0 0 0;", 4, 20);
        fault("soul a 0 0 0;lets b a;soul b 0 0 0;", 4, 18);
        fault(two + "lets c a;", 4, 31);
        fault(two + "lets a c;", 4, 33);
        fault(two + "bus c 0 1 1 0;lets a c;", 4, 47);
        fault(two + "bus c 0 1 1 0;lets c a;", 4, 45);
        fault("lets a a;", 4, 5);
        // A soul of a text ahead isn't told in this one.
        HeavenStop x = Checks.told(two);
        CHECKS.due("of another text", Checks.tell(x, "soul a 0 0 0;lets a b;"), -1);
        CHECKS.due("of another text", x.fault(0), 4);
    }

    private static void letsItself() {
        CHECKS.says("5 one that lets itself (at the second W)");
        fault("soul a 0 0 0;lets a a;", 5, 20);
        fault("soul a 0 0 0;soul b 0 0 0;lets b  b;", 5, 34);
        fine("soul a 0 0 0;soul aa 0 0 0;lets a aa;", 3);
        fault(souls(8) + ring(7) + "lets h h", 5, 104 + 63 + 7);
    }

    // ---- promises 7 and 9 ----

    private static void busNone() {
        CHECKS.says("7: NONE: no such ones");
        HeavenStop x = Checks.told(buses(4));
        for (int what = 0; what < 5; what++) {
            int asked = what;
            CHECKS.range("bus", 0, 3, -1, bus -> x.bus(bus, asked));
        }
        CHECKS.range("what", 0, 4, -1, what -> x.bus(3, what));
        HeavenStop y = Checks.told(buses(1));
        CHECKS.due("no second one", y.bus(1, 1), -1);
        CHECKS.due("none at all", new HeavenStop().bus(0, 0), -1);
    }

    private static void letsNone() {
        CHECKS.says("9: SOULS (bits) whom one LETS go first; NONE: no such SOUL");
        HeavenStop x = Checks.told(souls(8) + "lets a h;lets h a;lets h g;");
        CHECKS.range("lets", 0, 7, -1, x::lets);
        CHECKS.due("a", x.lets(0), 128);
        CHECKS.due("b", x.lets(1), 0);
        CHECKS.due("h", x.lets(7), 65);
        CHECKS.due("no second one", Checks.told(souls(1)).lets(1), -1);
    }
}
