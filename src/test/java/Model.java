import java.io.ByteArrayOutputStream;
import java.math.BigInteger;
import java.util.ArrayList;
import java.util.Arrays;
import java.util.HashMap;
import java.util.LinkedHashMap;
import java.util.LinkedHashSet;
import java.util.List;
import java.util.Map;
import java.util.Set;
import java.util.TreeMap;
import java.util.function.Consumer;
import java.util.function.IntPredicate;

/**
 * The document told a second time, with the library's collections and without care for speed:
 * ModelTest compares the class with it.
 */
final class Model {
    static final int NONE = -1;
    static final BigInteger MOST = BigInteger.TEN.pow(12);
    static final Set<String> LANGUAGE = new LinkedHashSet<>(Arrays.asList(
        ("soul bus lets seats rain seed law may turn soak or and not kind coins wet wait fare place minute")
            .split(" ")));
    static final List<String> NAMES = List.of("kind", "coins", "wet", "wait", "fare", "place", "minute");

    // ---- the text ----

    record Soul(String name, int died, int kindness, int coins) { }

    record Bus(String name, int first, int every, int room, int fare) {
        boolean comes(int minute) {
            return minute >= first && (minute - first) % every == 0;
        }
    }

    record Lets(int one, int other) { }

    /** A knot: its sign, its parts (none of a number or a name). */
    record Knot(String sign, List<Knot> parts) {
        /** Null for an ERROR. */
        BigInteger worth(Map<String, Integer> names) {
            if (parts.isEmpty()) {
                Integer named = names.get(sign);
                return named != null ? BigInteger.valueOf(named) : new BigInteger(sign);
            }
            List<BigInteger> values = new ArrayList<>();
            for (Knot part : parts) {
                BigInteger value = part.worth(names);
                if (value == null) {
                    return null;
                }
                values.add(value);
            }
            BigInteger a = values.get(0);
            BigInteger b = values.get(values.size() - 1);
            BigInteger value = switch (sign) {
                case "not" -> bit(a.signum() == 0);
                case "or" -> bit(a.signum() != 0 || b.signum() != 0);
                case "and" -> bit(a.signum() != 0 && b.signum() != 0);
                case "<" -> bit(a.compareTo(b) < 0);
                case "<=" -> bit(a.compareTo(b) <= 0);
                case "=" -> bit(a.equals(b));
                case "<>" -> bit(!a.equals(b));
                case ">=" -> bit(a.compareTo(b) >= 0);
                case ">" -> bit(a.compareTo(b) > 0);
                case "+" -> a.add(b);
                case "-" -> a.subtract(b);
                case "*" -> a.multiply(b);
                case "/" -> b.signum() == 0 ? null : a.divide(b);
                default -> throw new IllegalStateException(sign);
            };
            return value == null || value.abs().compareTo(MOST) > 0 ? null : value;
        }

        static BigInteger bit(boolean is) {
            return is ? BigInteger.ONE : BigInteger.ZERO;
        }
    }

    static final class Text {
        final List<Soul> souls = new ArrayList<>();
        final List<Bus> buses = new ArrayList<>();
        final Set<Lets> lets = new LinkedHashSet<>();
        final Map<String, Integer> once = new HashMap<>();
        final Map<String, Knot> laws = new HashMap<>();
        int knots = 0;
        int lines = 0;

        int seats() {
            return once.getOrDefault("seats", 2);
        }

        int rain() {
            return once.getOrDefault("rain", 0);
        }

        int seed() {
            return once.getOrDefault("seed", 0);
        }
    }

    static final class Fault extends RuntimeException {
        private static final long serialVersionUID = 1L;
        final int kind;
        final int place;

        Fault(int kind, int place) {
            this.kind = kind;
            this.place = place;
        }
    }

    record Token(String is, int place) { }

    /** Reads by the grammar's own rules, one method each. */
    static final class Parser {
        final List<Token> tokens = new ArrayList<>();
        int at = 0;
        int open = 0;
        final Text text = new Text();

        Parser(String all) {
            int i = 0;
            while (i < all.length()) {
                char c = all.charAt(i);
                int j = i + 1;
                if (c == ' ' || c == 10) {
                    i++;
                    continue;
                }
                if (small(c)) {
                    while (j < all.length() && small(all.charAt(j))) {
                        j++;
                    }
                } else if (digit(c)) {
                    while (j < all.length() && digit(all.charAt(j))) {
                        j++;
                    }
                } else if (j < all.length() && Set.of("<=", "<>", ">=").contains(all.substring(i, j + 1))) {
                    j++;
                }
                tokens.add(new Token(all.substring(i, j), i));
                i = j;
            }
            tokens.add(new Token("", all.length()));
        }

        static boolean small(char c) {
            return c >= 'a' && c <= 'z';
        }

        static boolean digit(char c) {
            return c >= '0' && c <= '9';
        }

        Text read() {
            while (!is("")) {
                line();
                take(";");
                text.lines++;
            }
            return text;
        }

        boolean is(String... any) {
            return Arrays.asList(any).contains(tokens.get(at).is);
        }

        Fault fault(int kind) {
            return new Fault(kind, tokens.get(at).place);
        }

        String take(String... any) {
            if (!is(any)) {
                throw fault(1);
            }
            return tokens.get(at++).is;
        }

        void line() {
            String word = tokens.get(at).is;
            switch (word) {
                case "soul" -> {
                    limit(text.souls.size(), 8);
                    at++;
                    String name = own();
                    if (text.souls.stream().anyMatch(s -> s.name.equals(name))) {
                        throw fault(3);
                    }
                    at++;
                    text.souls.add(new Soul(name, number(0, 99), number(0, 99), number(0, 99)));
                }
                case "bus" -> {
                    limit(text.buses.size(), 4);
                    at++;
                    String name = own();
                    if (text.buses.stream().anyMatch(b -> b.name.equals(name))) {
                        throw fault(3);
                    }
                    at++;
                    text.buses.add(new Bus(name, number(0, 99), number(1, 30), number(1, 8), number(0, 99)));
                }
                case "lets" -> {
                    limit(text.lets.size(), 8);
                    at++;
                    int one = known();
                    at++;
                    int other = known();
                    if (one == other) {
                        throw fault(5);
                    }
                    if (!text.lets.add(new Lets(one, other))) {
                        throw fault(3);
                    }
                    at++;
                }
                case "seats", "rain", "seed" -> {
                    if (text.once.containsKey(word)) {
                        throw fault(3);
                    }
                    at++;
                    text.once.put(word, number(0, Map.of("seats", 8, "rain", 100, "seed", 99999).get(word)));
                }
                case "law" -> {
                    at++;
                    if (!is("may", "turn", "soak")) {
                        throw fault(1);
                    }
                    if (text.laws.containsKey(tokens.get(at).is)) {
                        throw fault(3);
                    }
                    String rule = tokens.get(at++).is;
                    text.laws.put(rule, ors());
                }
                default -> throw fault(1);
            }
        }

        void limit(int many, int most) {
            if (many >= most) {
                throw fault(2);
            }
        }

        String own() {
            String word = tokens.get(at).is;
            if (word.isEmpty() || !small(word.charAt(0)) || word.length() > 6 || LANGUAGE.contains(word)) {
                throw fault(1);
            }
            return word;
        }

        int known() {
            String name = own();
            for (int i = 0; i < text.souls.size(); i++) {
                if (text.souls.get(i).name.equals(name)) {
                    return i;
                }
            }
            throw fault(4);
        }

        int number(int least, int most) {
            String digits = tokens.get(at).is;
            if (digits.isEmpty() || !digit(digits.charAt(0))) {
                throw fault(1);
            }
            BigInteger value = new BigInteger(digits);
            if (value.compareTo(BigInteger.valueOf(least)) < 0 || value.compareTo(BigInteger.valueOf(most)) > 0) {
                throw fault(2);
            }
            at++;
            return value.intValue();
        }

        void knot() {
            limit(text.knots, 64);
            text.knots++;
        }

        Knot ors() {
            Knot left = ands();
            while (is("or")) {
                left = join(left, true);
            }
            return left;
        }

        Knot join(Knot left, boolean or) {
            knot();
            String sign = tokens.get(at++).is;
            return new Knot(sign, List.of(left, or ? ands() : nots()));
        }

        Knot ands() {
            Knot left = nots();
            while (is("and")) {
                left = join(left, false);
            }
            return left;
        }

        Knot nots() {
            if (is("not")) {
                knot();
                at++;
                return new Knot("not", List.of(nots()));
            }
            Knot left = sum();
            if (is("<", "<=", "=", "<>", ">=", ">")) {
                knot();
                String sign = tokens.get(at++).is;
                return new Knot(sign, List.of(left, sum()));
            }
            return left;
        }

        Knot sum() {
            Knot left = product();
            while (is("+", "-")) {
                knot();
                String sign = tokens.get(at++).is;
                left = new Knot(sign, List.of(left, product()));
            }
            return left;
        }

        Knot product() {
            Knot left = part();
            while (is("*", "/")) {
                knot();
                String sign = tokens.get(at++).is;
                left = new Knot(sign, List.of(left, part()));
            }
            return left;
        }

        Knot part() {
            String word = tokens.get(at).is;
            if (word.equals("(")) {
                limit(open, 8);
                open++;
                at++;
                Knot inside = ors();
                take(")");
                open--;
                return inside;
            }
            if (NAMES.contains(word)) {
                knot();
                at++;
                return new Knot(word, List.of());
            }
            if (word.isEmpty() || !digit(word.charAt(0))) {
                throw fault(1);
            }
            knot();
            return new Knot(String.valueOf(number(0, 9999)), List.of());
        }
    }

    // ---- the minutes ----

    /** One way to go on: what is otherwise than told. */
    static final class Way {
        boolean draws = false;
        boolean nobodyLets = false;
        boolean allMay = false;
        boolean roomIs8 = false;
        Map<Integer, Integer> everies = Map.of();
    }

    static final class World {
        final Text text;
        int minute = 0;
        long number;
        final int[] state;
        final int[] coins;
        final int[] wet;
        final int[] passed;
        final int[] goneBy;
        final int[] goneAt;
        List<Integer> queue = new ArrayList<>();

        World(Text text) {
            this.text = text;
            int n = text.souls.size();
            number = text.seed();
            state = new int[n];
            coins = text.souls.stream().mapToInt(Soul::coins).toArray();
            wet = new int[n];
            passed = new int[n];
            goneBy = new int[n];
            goneAt = new int[n];
        }

        World(World w) {
            text = w.text;
            minute = w.minute;
            number = w.number;
            state = w.state.clone();
            coins = w.coins.clone();
            wet = w.wet.clone();
            passed = w.passed.clone();
            goneBy = w.goneBy.clone();
            goneAt = w.goneAt.clone();
            queue = new ArrayList<>(w.queue);
        }

        /** Null: an ERROR, or no such law. */
        BigInteger law(String rule, int soul, int fare) {
            Knot knot = text.laws.get(rule);
            if (knot == null) {
                return null;
            }
            Map<String, Integer> names = new HashMap<>();
            names.put("kind", text.souls.get(soul).kindness);
            names.put("coins", coins[soul]);
            names.put("wet", wet[soul]);
            names.put("wait", minute - text.souls.get(soul).died);
            names.put("fare", fare);
            names.put("place", queue.contains(soul) ? queue.indexOf(soul) : 9);
            names.put("minute", minute);
            return knot.worth(names);
        }

        boolean may(int soul, Bus bus) {
            BigInteger worth = law("may", soul, bus.fare);
            return worth == null ? coins[soul] >= bus.fare : worth.signum() != 0;
        }

        int cut(BigInteger worth, int least, int most, int without) {
            if (worth == null) {
                return without;
            }
            return worth.max(BigInteger.valueOf(least)).min(BigInteger.valueOf(most)).intValue();
        }

        void pass(Way way) {
            for (int i = 0; i < state.length; i++) {
                if (state[i] == 0 && text.souls.get(i).died == minute) {
                    state[i] = 1;
                    queue.add(i);
                }
            }
            for (int b = 0; b < text.buses.size(); b++) {
                Bus bus = text.buses.get(b);
                Bus comes = new Bus("", bus.first, way.everies.getOrDefault(b, bus.every), 0, 0);
                if (comes.comes(minute)) {
                    stop(b, bus, way);
                }
            }
            boolean rains = text.rain() >= 50;
            if (way.draws && text.rain() > 0 && text.rain() < 100) {
                number = (number * 1103515245L + 12345L) % (1L << 31);
                rains = number / 65536 % 100 < text.rain();
            }
            for (int place = text.seats(); rains && place < queue.size(); place++) {
                int soul = queue.get(place);
                wet[soul] = Math.min(999, wet[soul] + cut(law("soak", soul, 0), 0, 99, 1));
            }
            minute++;
        }

        void stop(int b, Bus bus, Way way) {
            Map<Integer, Integer> turns = new LinkedHashMap<>();
            for (int soul : queue) {
                if (way.allMay || may(soul, bus)) {
                    turns.put(soul, cut(law("turn", soul, bus.fare), -9999, 9999, 0));
                }
            }
            int room = way.roomIs8 ? 8 : bus.room;
            while (room > 0) {
                Integer best = null;
                for (int soul : turns.keySet()) {
                    boolean lets = !way.nobodyLets && text.lets.stream()
                        .anyMatch(l -> l.one == soul && turns.containsKey(l.other));
                    if (!lets && (best == null || turns.get(soul) < turns.get(best))) {
                        best = soul;
                    }
                }
                if (best == null) {
                    break;
                }
                turns.remove(best);
                queue.remove(best);
                state[best] = 2;
                goneBy[best] = b;
                goneAt[best] = minute;
                coins[best] = Math.max(0, coins[best] - bus.fare);
                room--;
            }
            if (room == 0) {
                turns.keySet().forEach(s -> passed[s]++);
            }
        }

        World after(int n, Way way) {
            World w = new World(this);
            for (int i = 0; i < n; i++) {
                w.pass(way);
            }
            return w;
        }

        int many(int what) {
            return (int) Arrays.stream(state).filter(s -> s == what).count();
        }

        int kindness() {
            int all = 0;
            for (int i = 0; i < state.length; i++) {
                all += state[i] == 2 ? text.souls.get(i).kindness : 0;
            }
            return all;
        }
    }

    // ---- the calls ----

    record Sight(int minutes, int soul, boolean isGone, int strikes) { }

    final ByteArrayOutputStream tape = new ByteArrayOutputStream();
    Text text = new Text();
    World now = new World(text);
    World image = null;
    int fault = 0;
    int place = NONE;
    final List<Consumer<World>> deeds = new ArrayList<>();
    final List<Sight> seen = new ArrayList<>();
    int knownBy = -1;

    int feed(int a, int b, int c, int d, int e) {
        if (tape.size() + 20 > 700) {
            return NONE;
        }
        for (int number : new int[] {a, b, c, d, e}) {
            tape.writeBytes(java.nio.ByteBuffer.allocate(4).putInt(number).array());
        }
        return tape.size();
    }

    int text(int n) {
        if (n < 0 || n > tape.size()) {
            return -2;
        }
        String all = new String(tape.toByteArray(), 0, n, java.nio.charset.StandardCharsets.ISO_8859_1);
        tape.reset();
        try {
            text = new Parser(all).read();
        } catch (Fault e) {
            fault = e.kind;
            place = e.place;
            return NONE;
        }
        fault = 0;
        place = NONE;
        now = new World(text);
        image = null;
        deeds.clear();
        seen.clear();
        knownBy = -1;
        return text.lines;
    }

    int fault(int what) {
        return what == 0 ? fault : what == 1 ? place : NONE;
    }

    boolean soul(int soul) {
        return soul >= 0 && soul < text.souls.size();
    }

    boolean bus(int bus) {
        return bus >= 0 && bus < text.buses.size();
    }

    int named(int what, int letters) {
        List<String> names = what == 0 ? text.souls.stream().map(Soul::name).toList()
            : what == 1 ? text.buses.stream().map(Bus::name).toList() : List.of();
        return names.stream().map(Checks::letters).toList().indexOf(letters);
    }

    int soul(int soul, int what) {
        if (!soul(soul)) {
            return Checks.IOOBE;
        }
        boolean gone = now.state[soul] == 2;
        int with = 0;
        for (int i = 0; gone && i < now.state.length; i++) {
            if (now.state[i] == 2 && now.goneBy[i] == now.goneBy[soul] && now.goneAt[i] == now.goneAt[soul]) {
                with += 1 << i;
            }
        }
        int placed = now.queue.indexOf(soul);
        return switch (what) {
            case 0 -> now.state[soul];
            case 1 -> text.souls.get(soul).kindness;
            case 2 -> now.coins[soul];
            case 3 -> now.wet[soul];
            case 4 -> placed < 0 ? -2 : placed;
            case 5 -> now.passed[soul];
            case 6 -> gone ? now.goneBy[soul] : -2;
            case 7 -> with;
            default -> Checks.NSEE;
        };
    }

    int bus(int bus, int what) {
        if (!bus(bus)) {
            return NONE;
        }
        Bus b = text.buses.get(bus);
        int with = 0;
        for (int i = 0; i < now.state.length; i++) {
            with += now.state[i] == 2 && now.goneBy[i] == bus ? 1 : 0;
        }
        return switch (what) {
            case 0 -> b.first;
            case 1 -> b.every;
            case 2 -> b.room;
            case 3 -> b.fare;
            case 4 -> with;
            default -> NONE;
        };
    }

    int queue(int at) {
        return at < 0 || at > 7 ? NONE : at < now.queue.size() ? now.queue.get(at) : -2;
    }

    int lets(int soul) {
        return soul(soul) ? text.lets.stream().filter(l -> l.one == soul).mapToInt(l -> 1 << l.other).sum() : NONE;
    }

    long law(int what, int soul, int bus) {
        if (what < 0 || what > 2 || !soul(soul) || what < 2 && !bus(bus)) {
            return Long.MIN_VALUE;
        }
        String rule = List.of("may", "turn", "soak").get(what);
        BigInteger worth = now.law(rule, soul, what == 2 ? 0 : text.buses.get(bus).fare);
        return worth == null ? Long.MIN_VALUE : worth.longValueExact();
    }

    void deed(Consumer<World> undone) {
        deeds.add(undone);
        if (deeds.size() > 20) {
            deeds.remove(0);
        }
    }

    boolean move(int soul, int to) {
        int from = soul(soul) ? now.queue.indexOf(soul) : -1;
        if (from < 0 || to < 0 || to >= now.queue.size() || to == from) {
            return false;
        }
        List<Integer> former = new ArrayList<>(now.queue);
        now.queue.remove(from);
        now.queue.add(to, soul);
        deed(w -> w.queue = former);
        return true;
    }

    int give(int soul, int coins) {
        if (!soul(soul) || coins < 1 || coins > 99 || now.state[soul] > 1) {
            return NONE;
        }
        int former = now.coins[soul];
        now.coins[soul] = Math.min(99, former + coins);
        deed(w -> w.coins[soul] = former);
        return now.coins[soul];
    }

    int off(int soul) {
        if (!soul(soul) || now.state[soul] != 1) {
            return NONE;
        }
        List<Integer> former = new ArrayList<>(now.queue);
        now.queue.remove((Integer) soul);
        now.state[soul] = 3;
        deed(w -> {
            w.queue = former;
            w.state[soul] = 1;
        });
        return now.queue.size();
    }

    int go(int n) {
        if (n < 0 || n > 200 || now.minute + n > 9800) {
            return NONE;
        }
        Way way = new Way();
        way.draws = true;
        now = now.after(n, way);
        if (n > 0) {
            deeds.clear();
        }
        return now.minute;
    }

    int ahead(int n, int what, int soul) {
        if (n < 0 || n > 200 || what < 0 || what > 4 || what == 3 && !soul(soul)) {
            return NONE;
        }
        World w = now.after(n, new Way());
        return switch (what) {
            case 0 -> w.many(2);
            case 1 -> w.kindness();
            case 2 -> Arrays.stream(w.passed).sum() - Arrays.stream(now.passed).sum();
            case 3 -> w.wet[soul];
            default -> w.queue.size();
        };
    }

    int next(int bus) {
        return bus(bus) ? within(2000, m -> text.buses.get(bus).comes(m)) : NONE;
    }

    int meet(int one, int other) {
        if (!bus(one) || !bus(other) || one == other) {
            return NONE;
        }
        return within(2000, m -> text.buses.get(one).comes(m) && text.buses.get(other).comes(m));
    }

    int within(int most, IntPredicate isSo) {
        for (int i = 0; i <= most; i++) {
            if (isSo.test(now.minute + i)) {
                return i;
            }
        }
        return -2;
    }

    int goes(int soul) {
        return soul(soul) ? till(now, soul, 199) : NONE;
    }

    int till(World from, int soul, int most) {
        World w = new World(from);
        for (int i = 0; i <= most; i++) {
            if (w.state[soul] == 2) {
                return i;
            }
            w.pass(new Way());
        }
        return -2;
    }

    int empty() {
        World w = new World(now);
        for (int i = 0; i <= 199; i++) {
            if (w.queue.isEmpty() && w.many(0) == 0) {
                return i;
            }
            w.pass(new Way());
        }
        return -2;
    }

    static void permutations(List<Integer> left, List<Integer> row, Consumer<List<Integer>> each) {
        if (left.isEmpty()) {
            each.accept(row);
        }
        for (Integer one : left) {
            List<Integer> less = new ArrayList<>(left);
            less.remove(one);
            List<Integer> more = new ArrayList<>(row);
            more.add(one);
            permutations(less, more, each);
        }
    }

    int order(int what) {
        if (what < 0 || what > 4) {
            return NONE;
        }
        int few = Math.min(4, now.queue.size());
        List<Integer> first = new ArrayList<>(now.queue.subList(0, few));
        first.sort(null);
        TreeMap<Integer, List<Integer>> best = new TreeMap<>();
        permutations(first, List.of(), row -> {
            World w = new World(now);
            List<Integer> all = new ArrayList<>(row);
            all.addAll(now.queue.subList(few, now.queue.size()));
            w.queue = all;
            best.putIfAbsent(w.after(20, new Way()).kindness(), row);
        });
        return what == 4 ? best.lastKey() : what < few ? best.lastEntry().getValue().get(what) : -2;
    }

    int trips(int bus) {
        if (!bus(bus)) {
            return NONE;
        }
        int many = (int) now.queue.stream().filter(s -> now.may(s, text.buses.get(bus))).count();
        int trips = 0;
        for (; many > 0; many -= text.buses.get(bus).room) {
            trips++;
        }
        return trips;
    }

    /** All ways to match from a bus on, the first by BUSES first. */
    void matches(int bus, List<Integer> picked, Consumer<List<Integer>> each) {
        if (bus == text.buses.size()) {
            each.accept(picked);
            return;
        }
        for (int soul = 0; soul <= text.souls.size(); soul++) {
            boolean none = soul == text.souls.size();
            if (none || now.state[soul] == 1 && !picked.contains(soul) && now.may(soul, text.buses.get(bus))) {
                List<Integer> more = new ArrayList<>(picked);
                more.add(none ? -2 : soul);
                matches(bus + 1, more, each);
            }
        }
    }

    int match(int what) {
        if (what < 0 || what > 4) {
            return NONE;
        }
        TreeMap<Integer, List<Integer>> best = new TreeMap<>();
        matches(0, List.of(), row -> best.putIfAbsent(
            row.stream().mapToInt(s -> s < 0 ? 0 : text.souls.get(s).kindness).sum(), row));
        List<Integer> row = best.lastEntry().getValue();
        return what == 4 ? best.lastKey() : what < row.size() ? row.get(what) : -2;
    }

    int coins(int soul) {
        if (!soul(soul)) {
            return NONE;
        }
        for (int more = 0; more <= 99; more++) {
            World w = new World(now);
            w.coins[soul] = Math.min(99, w.coins[soul] + more);
            if (till(w, soul, 60) >= 0) {
                return more;
            }
        }
        return -2;
    }

    List<Integer> restsOf(int one, int other) {
        int k = text.souls.get(one).kindness;
        int l = text.souls.get(other).kindness;
        int c = now.coins[one];
        int d = now.coins[other];
        int[][] ones = {{k / 2, k}, {k + c, c - l}};
        int[][] others = {{l / 2, l + d}, {l, d - k}};
        List<Integer> all = new ArrayList<>();
        for (int i = 0; i < 2; i++) {
            for (int j = 0; j < 2; j++) {
                if (ones[i][j] >= ones[1 - i][j] && others[i][j] >= others[i][1 - j]) {
                    all.add(10 * i + j);
                }
            }
        }
        return all;
    }

    int rests(int one, int other) {
        return soul(one) && soul(other) && one != other ? restsOf(one, other).size() : NONE;
    }

    int rest(int one, int other, int k) {
        if (!soul(one) || !soul(other) || one == other || k < 0) {
            return NONE;
        }
        List<Integer> all = restsOf(one, other);
        return k < all.size() ? all.get(k) : -2;
    }

    long dry(int n, int what) {
        if (n < 0 || n > 6 || what < 0 || what > 1) {
            return NONE;
        }
        BigInteger above = BigInteger.valueOf(100 - text.rain()).pow(n);
        BigInteger below = BigInteger.valueOf(100).pow(n);
        return (what == 0 ? above : below).divide(above.gcd(below)).longValueExact();
    }

    int see(int minutes, int soul, boolean isGone) {
        if (minutes < 1 || minutes > 60 || !soul(soul) || seen.size() >= 24) {
            return NONE;
        }
        seen.add(new Sight(minutes, soul, isGone, -1));
        return seen.size() - 1;
    }

    int strike(int one) {
        if (one < 0 || one >= seen.size() || seen.size() >= 24) {
            return NONE;
        }
        seen.add(new Sight(0, 0, false, one));
        return seen.size() - 1;
    }

    boolean known(int n) {
        if (n < -1 || n > seen.size()) {
            return false;
        }
        knownBy = n;
        return true;
    }

    boolean struck(int one, int by) {
        for (int i = one + 1; i < by; i++) {
            if (seen.get(i).strikes == one && !struck(i, by)) {
                return true;
            }
        }
        return false;
    }

    List<Integer> everiesOf(int bus) {
        int by = knownBy < 0 ? seen.size() : knownBy;
        List<Integer> all = new ArrayList<>();
        for (int every = 1; every <= 30; every++) {
            Way way = new Way();
            way.everies = Map.of(bus, every);
            boolean isSo = true;
            for (int i = 0; i < by; i++) {
                Sight s = seen.get(i);
                if (s.strikes < 0 && !struck(i, by)) {
                    isSo &= (new World(text).after(s.minutes, way).state[s.soul] == 2) == s.isGone;
                }
            }
            if (isSo) {
                all.add(every);
            }
        }
        return all;
    }

    int everies(int bus) {
        return bus(bus) ? everiesOf(bus).stream().mapToInt(e -> 1 << (e - 1)).sum() : NONE;
    }

    int ask(int bus, int what) {
        if (!bus(bus) || what < 0 || what > 1) {
            return NONE;
        }
        List<Integer> all = everiesOf(bus);
        int best = 0;
        int least = 99;
        for (int m = 0; m <= 60; m++) {
            int minute = m;
            int came = (int) all.stream()
                .filter(e -> new Bus("", text.buses.get(bus).first, e, 0, 0).comes(minute)).count();
            int worst = Math.max(came, all.size() - came);
            if (worst < least) {
                least = worst;
                best = m;
            }
        }
        return what == 0 ? best : least;
    }

    int chance(int seed, int n, int soul, int wet) {
        if (seed < 0 || n < 1 || n > 99 || !soul(soul) || wet < 0 || wet > 999) {
            return NONE;
        }
        Way way = new Way();
        way.draws = true;
        long number = seed;
        int many = 0;
        for (int i = 0; i < 10; i++) {
            World w = new World(now);
            w.number = number;
            w = w.after(n, way);
            number = w.number;
            many += w.wet[soul] >= wet ? 1 : 0;
        }
        return many;
    }

    int tried(int what, int i, int n) {
        if (what < 0 || what > 5 || n < 0 || n > 200 || (what == 2 ? !soul(i) : i != 0)) {
            return NONE;
        }
        World w = new World(now);
        Way way = new Way();
        way.nobodyLets = what == 1;
        way.allMay = what == 3;
        way.roomIs8 = what == 4;
        if (what == 2 && w.state[i] != 2) {
            w.queue.remove((Integer) i);
            w.state[i] = 3;
        }
        if (what == 5) {
            Arrays.fill(w.coins, 99);
        }
        return w.after(n, way).many(2) - now.many(2);
    }

    int undo() {
        if (deeds.isEmpty()) {
            return NONE;
        }
        deeds.remove(deeds.size() - 1).accept(now);
        return deeds.size();
    }

    int keep() {
        image = new World(now);
        return now.minute;
    }

    int back() {
        if (image == null) {
            return NONE;
        }
        now = new World(image);
        deeds.clear();
        return now.minute;
    }

    int count(int what) {
        return switch (what) {
            case 0 -> text.souls.size();
            case 1 -> text.buses.size();
            case 2 -> text.seats();
            case 3 -> text.knots;
            case 4 -> now.minute;
            case 5 -> now.queue.size();
            case 6 -> now.many(2);
            case 7 -> now.many(3);
            case 8 -> now.kindness();
            case 9 -> Arrays.stream(now.wet).sum();
            case 10 -> Arrays.stream(now.passed).sum();
            case 11 -> seen.size();
            case 12 -> knownBy < 0 ? seen.size() : knownBy;
            case 13 -> deeds.size();
            default -> NONE;
        };
    }
}
