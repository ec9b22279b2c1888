import java.util.Random;

/** All promises: random calls on the class and on the Model, and every answer compared. */
public final class ModelTest {
    private static final int RUNS = 1200;
    private static final int CALLS = 120;
    private static final int[] ODD = {
        -1, 0, 1, 2, 3, 4, 5, 6, 7, 8, 9, 13, 14, 20, 24, 30, 60, 61, 99, 100, 199, 200, 201, 999, 1000,
        Integer.MAX_VALUE, Integer.MIN_VALUE};

    private static Checks checks;
    private static Random random;
    private static HeavenStop x;
    private static Model m;
    private static StringBuilder log;

    public static void main(String[] args) {
        checks = new Checks();
        int runs = args.length > 0 ? Integer.parseInt(args[0]) : RUNS;
        int from = args.length > 1 ? Integer.parseInt(args[1]) : 0;
        for (int run = from; run < from + runs; run++) {
            random = new Random(run);
            x = new HeavenStop();
            m = new Model();
            log = new StringBuilder("run ").append(run).append(':');
            tell(randomText());
            for (int i = 0; i < CALLS; i++) {
                call();
            }
        }
        checks.end("ModelTest");
    }

    private static int some(int bound) {
        return random.nextInt(bound);
    }

    private static boolean once(int in) {
        return some(in) == 0;
    }

    // ---- texts ----

    private static String randomText() {
        StringBuilder text = new StringBuilder();
        int souls = once(12) ? some(10) : 2 + some(7);
        int buses = once(12) ? some(6) : 1 + some(4);
        int early = once(3) ? 100 : 12;
        for (int i = 0; i < souls; i++) {
            text.append("soul ").append(name(i)).append(' ').append(some(early)).append(' ')
                .append(some(once(3) ? 3 : 100)).append(' ').append(some(once(2) ? 6 : 100)).append(';');
        }
        for (int i = 0; i < buses; i++) {
            text.append("bus ").append(name(i)).append(' ').append(some(once(4) ? 100 : 12)).append(' ')
                .append(1 + some(once(2) ? 6 : 30)).append(' ').append(1 + some(once(2) ? 2 : 8)).append(' ')
                .append(some(once(2) ? 5 : 100)).append(';');
        }
        int lets = some(6);
        for (int i = 0; i < lets && souls > 1; i++) {
            int one = some(souls);
            int other = (one + 1 + some(souls - 1)) % souls;
            text.append("lets ").append(name(one)).append(' ').append(name(other)).append(';');
        }
        if (once(2)) {
            text.append("seats ").append(some(5)).append(';');
        }
        if (!once(3)) {
            text.append("rain ").append(some(101)).append(';');
        }
        if (once(2)) {
            text.append("seed ").append(some(100000)).append(';');
        }
        for (String rule : new String[] {"may", "turn", "soak"}) {
            if (once(2)) {
                text.append("law ").append(rule).append(' ').append(expression(3)).append(';');
            }
        }
        return once(8) ? spoilt(text) : text.toString();
    }

    private static String name(int i) {
        String[] names = {"ann", "bo", "cy", "d", "eeeeee", "fa", "gus", "h", "ida", "jo"};
        return names[i % names.length];
    }

    private static String expression(int depth) {
        String[] names = {"kind", "coins", "wet", "wait", "fare", "place", "minute"};
        if (depth == 0 || once(4)) {
            return once(3) ? String.valueOf(some(once(3) ? 10000 : 12)) : names[some(names.length)];
        }
        String[] signs = {"+", "-", "*", "/", "<", "<=", "=", "<>", ">=", ">", " and ", " or "};
        return switch (some(6)) {
            case 0 -> "(" + expression(depth - 1) + ")";
            case 1 -> once(2) ? "not " + expression(depth - 1) : "(not " + expression(depth - 1) + ")";
            case 2 -> "(" + expression(depth - 1) + ")" + signs[some(signs.length)] + "(" + expression(depth - 1) + ")";
            default -> expression(depth - 1) + signs[some(signs.length)] + expression(depth - 1);
        };
    }

    /** A text in which a few signs are changed, taken out or told twice. */
    private static String spoilt(StringBuilder text) {
        String signs = "az09 ;()+-*/<>=A?\n";
        int times = 1 + some(2);
        for (int i = 0; i < times && text.length() > 2; i++) {
            int at = some(text.length());
            switch (some(4)) {
                case 0 -> text.deleteCharAt(at);
                case 1 -> text.setCharAt(at, signs.charAt(some(signs.length())));
                case 2 -> text.insert(at, signs.charAt(some(signs.length())));
                default -> text.insert(at, text.substring(at, Math.min(text.length(), at + 1 + some(20))));
            }
        }
        return text.toString();
    }

    private static void tell(String text) {
        byte[] bytes = text.getBytes(java.nio.charset.StandardCharsets.ISO_8859_1);
        for (int at = 0; at < bytes.length; at += 20) {
            int[] five = new int[5];
            for (int i = 0; i < 20; i++) {
                five[i / 4] = five[i / 4] << 8 | (at + i < bytes.length ? bytes[at + i] & 255 : 32);
            }
            due("feed", x.feed(five[0], five[1], five[2], five[3], five[4]),
                m.feed(five[0], five[1], five[2], five[3], five[4]));
        }
        int length = once(20) ? some(bytes.length + 3) : bytes.length;
        log.append("\n  text ").append(length).append(" of ").append(text);
        due("text", x.text(length), m.text(length));
        due("fault", x.fault(0), m.fault(0));
        due("fault's place", x.fault(1), m.fault(1));
        for (int i = 0; i < 14; i++) {
            due("count " + i, x.count(i), m.count(i));
        }
    }

    // ---- calls ----

    private static void due(String what, long got, long want) {
        checks.due(got == want ? what : log + "\n  " + what, got, want);
    }

    private static void due(String what, boolean got, boolean want) {
        due(what, got ? 1 : 0, want ? 1 : 0);
    }

    /** Mostly below the bound, now and then anything. */
    private static int arg(int bound) {
        return once(15) ? ODD[some(ODD.length)] : some(bound);
    }

    private static int aSoul() {
        return arg(Math.max(1, m.text.souls.size()));
    }

    private static int aBus() {
        return arg(Math.max(1, m.text.buses.size()));
    }

    private static void call() {
        int which = some(40);
        int a = 0;
        int b = 0;
        int c = 0;
        switch (which) {
            case 0: case 1: change(); change(); return;
            case 2: case 3: case 4: case 5: case 6: change(); return;
            case 7: a = arg(2); due("named " + a, x.named(a, Checks.letters(name(b = some(10)))), m.named(a, Checks.letters(name(b)))); return;
            case 8: case 9: a = aSoul(); b = arg(8); due("soul " + a + " " + b, Checks.soul(x, a, b), m.soul(a, b)); return;
            case 10: a = aBus(); b = arg(5); due("bus " + a + " " + b, x.bus(a, b), m.bus(a, b)); return;
            case 11: a = arg(8); due("queue " + a, x.queue(a), m.queue(a)); return;
            case 12: a = aSoul(); due("lets " + a, x.lets(a), m.lets(a)); return;
            case 13: case 14: a = arg(3); b = aSoul(); c = aBus(); due("law " + a + " " + b + " " + c, x.law(a, b, c), m.law(a, b, c)); return;
            case 15: case 16: a = arg(40); b = arg(5); c = aSoul(); due("ahead " + a + " " + b + " " + c, x.ahead(a, b, c), m.ahead(a, b, c)); return;
            case 17: a = aBus(); due("next " + a, x.next(a), m.next(a)); return;
            case 18: a = aBus(); b = aBus(); due("meet " + a + " " + b, x.meet(a, b), m.meet(a, b)); return;
            case 19: a = aSoul(); due("goes " + a, x.goes(a), m.goes(a)); return;
            case 20: due("empty", x.empty(), m.empty()); return;
            case 21: case 22: a = arg(5); due("order " + a, x.order(a), m.order(a)); return;
            case 23: a = aBus(); due("trips " + a, x.trips(a), m.trips(a)); return;
            case 24: case 25: a = arg(5); due("match " + a, x.match(a), m.match(a)); return;
            case 26: a = aSoul(); due("coins " + a, x.coins(a), m.coins(a)); return;
            case 27: a = aSoul(); b = aSoul(); due("rests " + a + " " + b, x.rests(a, b), m.rests(a, b)); return;
            case 28: a = aSoul(); b = aSoul(); c = arg(3); due("rest " + a + " " + b + " " + c, x.rest(a, b, c), m.rest(a, b, c)); return;
            case 29: a = arg(7); b = arg(2); due("dry " + a + " " + b, x.dry(a, b), m.dry(a, b)); return;
            case 30: a = aBus(); due("everies " + a, x.everies(a), m.everies(a)); return;
            case 31: a = aBus(); b = arg(2); due("ask " + a + " " + b, x.ask(a, b), m.ask(a, b)); return;
            case 32: case 33: rain(); return;
            case 34: case 35: a = arg(6); b = a == 2 || once(9) ? aSoul() : 0; c = arg(40);
                due("tried " + a + " " + b + " " + c, x.tried(a, b, c), m.tried(a, b, c)); return;
            case 36: a = arg(2); due("fault " + a, x.fault(a), m.fault(a)); return;
            default: a = arg(14); due("count " + a, x.count(a), m.count(a)); return;
        }
    }

    private static void rain() {
        int seed = once(9) ? ODD[some(ODD.length)] : some(Integer.MAX_VALUE);
        int n = arg(30);
        int soul = aSoul();
        int wet = arg(once(2) ? 5 : 60);
        due("chance " + seed + " " + n + " " + soul + " " + wet, x.chance(seed, n, soul, wet), m.chance(seed, n, soul, wet));
    }

    private static void change() {
        int a = 0;
        int b = 0;
        switch (some(16)) {
            case 0: case 1: case 2: a = arg(once(4) ? 30 : 5); said("go", a, 0); due("go", x.go(a), m.go(a)); return;
            case 3: case 4: a = aSoul(); b = arg(8); said("move", a, b); due("move", x.move(a, b), m.move(a, b)); return;
            case 5: a = aSoul(); b = arg(once(2) ? 5 : 100); said("give", a, b); due("give", x.give(a, b), m.give(a, b)); return;
            case 6: a = aSoul(); said("off", a, 0); due("off", x.off(a), m.off(a)); return;
            case 7: case 8: said("undo", 0, 0); due("undo", x.undo(), m.undo()); return;
            case 9: said("keep", 0, 0); due("keep", x.keep(), m.keep()); return;
            case 10: said("back", 0, 0); due("back", x.back(), m.back()); return;
            case 11: case 12: see(); return;
            case 13: a = arg(Math.max(1, m.seen.size())); said("strike", a, 0); due("strike", x.strike(a), m.strike(a)); return;
            case 14: a = some(m.seen.size() + 3) - 1; said("known", a, 0); due("known", x.known(a), m.known(a)); return;
            default: if (once(6)) { tell(randomText()); } return;
        }
    }

    private static void see() {
        int minutes = arg(25);
        int soul = aSoul();
        // Mostly what is so by the text, so that some EVERIES are left.
        boolean isGone = minutes > 0 && minutes <= 60 && m.soul(soul)
            && new Model.World(m.text).after(minutes, new Model.Way()).state[soul] == 2 != once(12);
        said("see " + isGone, minutes, soul);
        due("see", x.see(minutes, soul, isGone), m.see(minutes, soul, isGone));
    }

    private static void said(String what, int a, int b) {
        log.append("\n  ").append(what).append(' ').append(a).append(' ').append(b);
    }
}
