/** Promise 10, and how an E is worked out. */
public final class LawTest {
    private static final Checks CHECKS = new Checks();
    private static final long ERROR = Long.MIN_VALUE;

    public static void main(String[] args) {
        signs();
        bindings();
        errors();
        names();
        noSuchOnes();
        CHECKS.end("LawTest");
    }

    private static void worth(String e, long want) {
        HeavenStop x = Checks.told("soul a 0 5 7;bus k 9 1 1 3;law turn " + e + ";");
        CHECKS.due(e, x.law(1, 0, 0), want);
    }

    private static void signs() {
        worth("0", 0);
        worth("9999", 9999);
        worth("0007", 7);
        worth("2+3", 5);
        worth("2-3", -1);
        worth("4*6", 24);
        worth("7/2", 3);
        worth("(0-7)/2", -3);
        worth("7/(0-2)", -3);
        worth("1<2", 1);
        worth("2<2", 0);
        worth("2<=2", 1);
        worth("3<=2", 0);
        worth("2=2", 1);
        worth("2=3", 0);
        worth("2<>2", 0);
        worth("2<>3", 1);
        worth("2>=2", 1);
        worth("1>=2", 0);
        worth("2>2", 0);
        worth("3>2", 1);
        worth("not 0", 1);
        worth("not 5", 0);
        worth("not not 5", 1);
        worth("4 and 2", 1);
        worth("4 and 0", 0);
        worth("0 and 4", 0);
        worth("0 or 0", 0);
        worth("0 or 7", 1);
        worth("7 or 0", 1);
        worth("(0-3)and(0-1)", 1);
    }

    private static void bindings() {
        worth("2+3*4", 14);
        worth("(2+3)*4", 20);
        worth("10-3-2", 5);
        worth("10-(3-2)", 9);
        worth("100/10/5", 2);
        worth("7/2*2", 6);
        worth("1+1=2", 1);
        worth("1 or 1 and 0", 1);
        worth("(1 or 1)and 0", 0);
        worth("0 and 0 or 1", 1);
        worth("not 1=2", 1);
        worth("(not 1)=2", 0);
        worth("not 0 and 0", 0);
        worth("not(0 and 0)", 1);
        worth("not 1+1", 0);
        worth("(not 1)+1", 1);
        worth("3>2 and 2>1", 1);
        worth("(3>2)+(2>1)", 2);
        worth("((((((((5))))))))", 5);
    }

    private static void errors() {
        worth("1/0", ERROR);
        worth("0/0", ERROR);
        worth("0*(1/0)", ERROR);
        worth("1 or 1/0", ERROR);
        worth("0 and 1/0", ERROR);
        worth("not(1/0)", ERROR);
        String million = "(1000*1000)";
        worth(million + "*" + million, 1000000000000L);
        worth(million + "*" + million + "+0", 1000000000000L);
        worth(million + "*" + million + "+1", ERROR);
        worth("0-" + million + "*" + million, -1000000000000L);
        worth("0-" + million + "*" + million + "-1", ERROR);
        worth("(0-" + million + ")*" + million, -1000000000000L);
        worth("(0-" + million + ")*" + million + "*1", -1000000000000L);
        worth(million + "*" + million + "*2", ERROR);
        worth(million + "*" + million + "*0", 0);
        worth("0*(" + million + "*" + million + ")", 0);
        // Beyond a long: its wrapped product would be small again.
        worth("(4096*4096*4096)*(4096*4096*4096)", ERROR);
        worth("(4096*4096*4096)*(0-4096*4096*4096)", ERROR);
        worth("(0-4096*4096*4096)*(0-4096*4096*4096)*0", ERROR);
        worth("9999*9999*9999", 999700029999L);
        worth("9999*9999*9999*9999/9999", ERROR);
        worth("9999*9999*9999-(0-9999*9999*9999)", ERROR);
    }

    private static void names() {
        HeavenStop x = Checks.told("soul a 2 5 7;soul b 2 6 8;bus k 50 1 1 3;bus l 50 1 1 4;rain 100;seats 1;"
            + "law may ((((kind*100+coins)*100+wet)*100+fare)*100+place)*100+minute;"
            + "law turn wait;law soak fare*10+place+3;");
        CHECKS.due("a at 0: not there yet, place 9", x.law(0, 0, 0), 50700030900L);
        CHECKS.due("b at 0 for l", x.law(0, 1, 1), 60800040900L);
        CHECKS.due("wait at 0", x.law(1, 0, 0), -2);
        CHECKS.due("soak at 0", x.law(2, 0, 0), 12);
        x.go(5);
        // b is at place 1 and was soaked three times by 4.
        CHECKS.due("a at 5", x.law(0, 0, 0), 50700030005L);
        CHECKS.due("b at 5", x.law(0, 1, 1), 60812040105L);
        CHECKS.due("wait at 5", x.law(1, 1, 0), 3);
        CHECKS.due("soak of b: no fare", x.law(2, 1, 0), 4);
        CHECKS.due("soak: no bus is looked at", x.law(2, 1, -7), 4);
        x.move(1, 0);
        CHECKS.due("soak of b at place 0", x.law(2, 1, 0), 3);
        x.give(1, 3);
        CHECKS.due("coins as now", x.law(0, 1, 0), 61112030005L);
        x.off(1);
        CHECKS.due("off: place 9", x.law(2, 1, 0), 12);
        // E itself, not what a minute makes of it.
        x = Checks.told("soul a 0 5 7;bus k 9 1 1 3;law turn 0-20000;law soak 0-5;law may 7*7;".replace("20000", "2*9999"));
        CHECKS.due("turn is not cut", x.law(1, 0, 0), -19998);
        CHECKS.due("soak is not cut", x.law(2, 0, 0), -5);
        CHECKS.due("may is not 1", x.law(0, 0, 0), 49);
    }

    private static void noSuchOnes() {
        HeavenStop x = Checks.told("soul a 0 5 7;bus k 9 1 1 3;law turn 1;");
        CHECKS.due("turn", x.law(1, 0, 0), 1);
        CHECKS.due("no may", x.law(0, 0, 0), ERROR);
        CHECKS.due("no soak", x.law(2, 0, 0), ERROR);
        CHECKS.due("no such law", x.law(3, 0, 0), ERROR);
        CHECKS.due("no such law", x.law(-1, 0, 0), ERROR);
        CHECKS.due("no such soul", x.law(1, 1, 0), ERROR);
        CHECKS.due("no such soul", x.law(1, -1, 0), ERROR);
        CHECKS.due("no such bus", x.law(1, 0, 1), ERROR);
        CHECKS.due("no such bus", x.law(1, 0, -1), ERROR);
        Checks.tell(x, "soul a 0 5 7;law soak 2;");
        CHECKS.due("soak without buses", x.law(2, 0, 0), 2);
        CHECKS.due("soak of no such soul", x.law(2, 1, 0), ERROR);
    }
}
