import java.math.BigInteger;
import java.util.ArrayList;
import java.util.Arrays;
import java.util.HashMap;
import java.util.HashSet;
import java.util.List;
import java.util.Map;
import java.util.Set;

/**
 * The document once more, written as slowly and plainly as its words and in other ways than the
 * class: a text is read by descent into a tree, every answer is worked out from scratch.
 */
final class Model {
    static final int NONE = -1;

    static final class Fault extends RuntimeException {
        private static final long serialVersionUID = 1L;
        final int what;
        final int place;

        Fault(int what, int place) {
            this.what = what;
            this.place = place;
        }
    }

    static final class Bad extends RuntimeException {
        private static final long serialVersionUID = 1L;
    }

    record Token(String text, int place) {
        boolean isNumber() {
            return !text.isEmpty() && Character.isDigit(text.charAt(0));
        }
    }

    /** A tree: a sign with its parts, or a leaf. */
    static final class Tree {
        final String sign;
        final Tree[] parts;

        Tree(String sign, Tree... parts) {
            this.sign = sign;
            this.parts = parts;
        }

        BigInteger value(Map<String, Integer> facts) {
            BigInteger[] v = new BigInteger[parts.length];
            for (int k = 0; k < parts.length; k++) {
                v[k] = parts[k].value(facts);
            }
            BigInteger answer = plainValue(facts, v);
            if (answer.abs().compareTo(BigInteger.TEN.pow(12)) > 0) {
                throw new Bad();
            }
            return answer;
        }

        private BigInteger plainValue(Map<String, Integer> facts, BigInteger[] v) {
            if (parts.length == 0) {
                return facts.containsKey(sign) ? BigInteger.valueOf(facts.get(sign)) : new BigInteger(sign);
            }
            if (parts.length == 1) {
                return sign.equals("not") ? bit(v[0].signum() == 0) : v[0].negate();
            }
            switch (sign) {
                case "or": return bit(v[0].signum() != 0 || v[1].signum() != 0);
                case "and": return bit(v[0].signum() != 0 && v[1].signum() != 0);
                case "<": return bit(v[0].compareTo(v[1]) < 0);
                case "<=": return bit(v[0].compareTo(v[1]) <= 0);
                case "=": return bit(v[0].compareTo(v[1]) == 0);
                case "<>": return bit(v[0].compareTo(v[1]) != 0);
                case ">=": return bit(v[0].compareTo(v[1]) >= 0);
                case ">": return bit(v[0].compareTo(v[1]) > 0);
                case "+": return v[0].add(v[1]);
                case "-": return v[0].subtract(v[1]);
                case "*": return v[0].multiply(v[1]);
                default:
                    if (v[1].signum() == 0) {
                        throw new Bad();
                    }
                    return sign.equals("/") ? v[0].divide(v[1]) : v[0].remainder(v[1]);
            }
        }

        private static BigInteger bit(boolean is) {
            return is ? BigInteger.ONE : BigInteger.ZERO;
        }
    }

    /** The reading of one text by descent. */
    static final class Text {
        private static final Set<String> NAMES = Set.of(
                "year", "rank", "worth", "men", "house", "hours", "guns", "women", "late");
        private static final Set<String> COMPARE = Set.of("<", "<=", "=", "<>", ">=", ">");
        final byte[] bytes;
        int at;
        Token token;
        int knots;
        int open;
        String line;
        final Map<String, Integer> numbers = new HashMap<>(Map.of("march", 8, "news", 24, "hold", 3, "pay", 2));
        final Map<String, List<Tree>> trees = new HashMap<>();
        final Set<String> told = new HashSet<>();

        Text(byte[] bytes) {
            this.bytes = bytes;
            trees.put("attend", List.of(new Tree("1")));
            trees.put("bearers", List.of(new Tree("/", new Tree("men"), new Tree("10"))));
            trees.put("room", List.of(new Tree("10")));
            trees.put("fine", List.of(new Tree("0")));
            trees.put("yield", List.of(new Tree("rank")));
        }

        private void next() {
            while (at < bytes.length && (bytes[at] == 10 || bytes[at] == 32)) {
                at++;
            }
            int from = at;
            if (at == bytes.length) {
                token = new Token("", at);
                return;
            }
            String rest = new String(bytes, at, bytes.length - at, java.nio.charset.StandardCharsets.ISO_8859_1);
            java.util.regex.Matcher m = java.util.regex.Pattern
                    .compile("[a-z]+|[0-9]+|<=|<>|>=|[<>=+*/%(),;-]").matcher(rest);
            if (m.lookingAt()) {
                at += m.end();
                token = new Token(m.group(), from);
            } else {
                at++;
                token = new Token("?", from);
            }
        }

        private boolean is(String text) {
            return token.text.equals(text);
        }

        private Fault here(int what) {
            return new Fault(what, token.place);
        }

        private void need(String text) {
            if (!is(text)) {
                throw here(1);
            }
            next();
        }

        void readAll() {
            next();
            while (!token.text.isEmpty()) {
                line = token.text;
                if (!numbers.containsKey(line) && !trees.containsKey(line)) {
                    throw here(1);
                }
                if (!told.add(line)) {
                    throw here(3);
                }
                next();
                if (numbers.containsKey(line)) {
                    readNumber();
                } else {
                    readTrees();
                }
                need(";");
            }
        }

        private void readNumber() {
            if (!token.isNumber()) {
                throw here(1);
            }
            BigInteger n = new BigInteger(token.text);
            int least = line.equals("pay") ? 0 : 1;
            int most = line.equals("march") ? 24 : line.equals("hold") ? 9 : 99;
            if (n.compareTo(BigInteger.valueOf(least)) < 0 || n.compareTo(BigInteger.valueOf(most)) > 0) {
                throw here(2);
            }
            numbers.put(line, n.intValue());
            next();
        }

        private void readTrees() {
            List<Tree> all = new ArrayList<>();
            all.add(readE());
            while (line.equals("yield") && is(",")) {
                next();
                boolean begins = token.isNumber() || NAMES.contains(token.text)
                        || is("(") || is("-") || is("not");
                if (!begins) {
                    throw here(1);
                }
                if (all.size() == 3) {
                    throw here(2);
                }
                all.add(readE());
            }
            trees.put(line, all);
        }

        private String knot() {
            if (++knots > 96) {
                throw here(2);
            }
            String text = token.text;
            return text;
        }

        private Tree readE() {
            Tree left = readA();
            while (is("or")) {
                knot();
                next();
                left = new Tree("or", left, readA());
            }
            return left;
        }

        private Tree readA() {
            Tree left = readB();
            while (is("and")) {
                knot();
                next();
                left = new Tree("and", left, readB());
            }
            return left;
        }

        private Tree readB() {
            if (is("not")) {
                knot();
                next();
                return new Tree("not", readB());
            }
            Tree left = readS();
            if (COMPARE.contains(token.text)) {
                String sign = knot();
                next();
                return new Tree(sign, left, readS());
            }
            return left;
        }

        private Tree readS() {
            Tree left = readT();
            while (is("+") || is("-")) {
                String sign = knot();
                next();
                left = new Tree(sign, left, readT());
            }
            return left;
        }

        private Tree readT() {
            Tree left = readU();
            while (is("*") || is("/") || is("%")) {
                String sign = knot();
                next();
                left = new Tree(sign, left, readU());
            }
            return left;
        }

        private Tree readU() {
            if (is("-")) {
                knot();
                next();
                return new Tree("-", readU());
            }
            if (is("(")) {
                if (++open > 8) {
                    throw here(2);
                }
                next();
                Tree inside = readE();
                need(")");
                open--;
                return inside;
            }
            if (token.isNumber()) {
                knot();
                BigInteger n = new BigInteger(token.text);
                if (n.compareTo(BigInteger.valueOf(99999)) > 0) {
                    throw here(2);
                }
                next();
                return new Tree(n.toString());
            }
            if (NAMES.contains(token.text)) {
                String name = knot();
                if (name.equals("late") && !line.equals("fine")) {
                    throw here(4);
                }
                next();
                return new Tree(name);
            }
            throw here(1);
        }
    }

    static final class Place {
        int next;
        int hours;
        int houses;
        int duty;
        int shut;
        boolean gate;
        int[] heights = new int[100];
    }

    static final class Man {
        int home;
        int rank;
        int worth;
        int men;
        int guns;
        int women;
        int paperGuns;
        int paperWomen;
        int from = 0;
        int to = 10;
        int due = 30;
        int day = NONE;
    }

    /** What one run of a row answers. */
    static final class Outcome {
        int[][][] nights;
        int[][] ends;
        int[][] given;
        int yields;
        int cost;
    }

    final List<Place> places = new ArrayList<>(List.of(new Place()));
    final List<Man> men = new ArrayList<>();
    final List<Byte> tape = new ArrayList<>();
    Text text = new Text(new byte[0]);
    int year;
    int fault;
    int faultPlace = NONE;
    int looks;

    int feed(int... numbers) {
        if (tape.size() > 580) {
            return NONE;
        }
        for (int n : numbers) {
            for (byte b : java.nio.ByteBuffer.allocate(4).putInt(n).array()) {
                tape.add(b);
            }
        }
        return tape.size();
    }

    int edicts(int n) {
        if (n < 0 || n > tape.size()) {
            return -2;
        }
        byte[] bytes = new byte[n];
        for (int k = 0; k < n; k++) {
            bytes[k] = tape.get(k);
        }
        tape.clear();
        Text fresh = new Text(bytes);
        try {
            fresh.readAll();
        } catch (Fault f) {
            fault = f.what;
            faultPlace = f.place;
            return NONE;
        }
        fault = 0;
        faultPlace = NONE;
        text = fresh;
        return text.told.size();
    }

    int fault(int what) {
        return what == 0 ? fault : what == 1 ? faultPlace : NONE;
    }

    boolean year(int y) {
        if (y < 0 || y > 9999) {
            return false;
        }
        year = y;
        return true;
    }

    private static boolean in(int v, int a, int b) {
        return a <= v && v <= b;
    }

    int station(int next, int hours, int houses, int duty, int shut, boolean gate) {
        if (places.size() == 12 || !in(next, 0, places.size() - 1) || !in(hours, 1, 20) || !in(houses, 1, 3)
                || !in(duty, 0, 999) || !in(shut, 1, 100)) {
            return NONE;
        }
        Place p = new Place();
        p.next = next;
        p.hours = hours;
        p.houses = houses;
        p.duty = duty;
        p.shut = shut;
        p.gate = gate;
        places.add(p);
        return places.size() - 1;
    }

    boolean height(int station, int from, int to, int h) {
        if (!in(station, 1, places.size() - 1) || !in(from, 0, 99) || !in(to, 0, 99) || from > to || !in(h, 0, 99)) {
            return false;
        }
        Arrays.fill(places.get(station).heights, from, to + 1, h);
        return true;
    }

    private List<Integer> toCity(int a) {
        List<Integer> all = new ArrayList<>();
        for (int s = a; s != 0; s = places.get(s).next) {
            all.add(s);
        }
        all.add(0);
        return all;
    }

    int between(int a, int b) {
        if (!in(a, 0, places.size() - 1) || !in(b, 0, places.size() - 1)) {
            return NONE;
        }
        List<Integer> one = toCity(a);
        List<Integer> other = toCity(b);
        Set<Integer> only = new HashSet<>(one);
        only.addAll(other);
        int sum = 0;
        for (int s : only) {
            if (one.contains(s) != other.contains(s)) {
                sum += places.get(s).hours;
            }
        }
        return sum;
    }

    int lord(int home, int rank, int worth, int count, int guns, int women) {
        if (men.size() == 6 || !in(home, 1, places.size() - 1) || !in(rank, 0, 9) || !in(worth, 0, 999)
                || !in(count, 1, 999) || !in(guns, 0, 99) || !in(women, 0, 99)) {
            return NONE;
        }
        Man m = new Man();
        m.home = home;
        m.rank = rank;
        m.worth = worth;
        m.men = count;
        m.guns = guns;
        m.women = women;
        men.add(m);
        return men.size() - 1;
    }

    private boolean has(int lord) {
        return in(lord, 0, men.size() - 1);
    }

    boolean papers(int lord, int guns, int women) {
        if (!has(lord) || !in(guns, 0, 99) || !in(women, 0, 99)) {
            return false;
        }
        men.get(lord).paperGuns = guns;
        men.get(lord).paperWomen = women;
        return true;
    }

    boolean window(int lord, int from, int to, int due) {
        if (!has(lord) || !in(from, 0, 60) || !in(to, 0, 60) || from > to || !in(due, 0, 99)) {
            return false;
        }
        men.get(lord).from = from;
        men.get(lord).to = to;
        men.get(lord).due = due;
        return true;
    }

    private long value(String line, int part, int lord, int late) {
        Man m = men.get(lord);
        Map<String, Integer> facts = new HashMap<>();
        facts.put("year", year);
        facts.put("rank", m.rank);
        facts.put("worth", m.worth);
        facts.put("men", m.men);
        facts.put("house", lord);
        facts.put("hours", between(m.home, 0));
        facts.put("guns", m.guns);
        facts.put("women", m.women);
        facts.put("late", late);
        try {
            return text.trees.get(line).get(part).value(facts).longValueExact();
        } catch (Bad b) {
            return 0;
        }
    }

    private int coins(String line, int lord, int late) {
        return (int) Math.min(9999, Math.max(0, value(line, 0, lord, late)));
    }

    private boolean attends(int lord) {
        return value("attend", 0, lord, 0) != 0;
    }

    int wants(int lord, int what, int v) {
        if (!has(lord) || !in(what, 0, 3) || what == 3 && !in(v, 0, 100)) {
            return NONE;
        }
        switch (what) {
            case 0: return attends(lord) ? 1 : 0;
            case 1: return coins("bearers", lord, 0);
            case 2: return coins("room", lord, 0);
            default: return coins("fine", lord, v);
        }
    }

    int ahead(int a, int b) {
        if (!has(a) || !has(b) || a == b) {
            return NONE;
        }
        for (int k = 0; k < text.trees.get("yield").size(); k++) {
            int c = Long.compare(value("yield", k, a, 0), value("yield", k, b, 0));
            if (c != 0) {
                return c < 0 ? a : b;
            }
        }
        return Math.min(a, b);
    }

    boolean set(int lord, int day) {
        if (!has(lord) || !in(day, -1, 60)) {
            return false;
        }
        men.get(lord).day = day;
        return true;
    }

    private int[] rowAtHand() {
        return men.stream().mapToInt(m -> m.day).toArray();
    }

    /** The whole run of a row, with no thought for time. */
    private final class Course {
        final int n = men.size();
        final int[] row;
        final List<Integer> order = new ArrayList<>();
        final int[] at = new int[n];
        final int[] held = new int[n];
        final int[] yields = new int[n];
        final int[] cost = new int[n];
        final int[] hired = new int[n];
        final int[] excused = new int[n];
        final int[] arrival = new int[n];
        final List<Set<Integer>> looked = new ArrayList<>();
        final List<Set<Integer>> lodge = new ArrayList<>();
        int[] duty;
        final Outcome out = new Outcome();

        Course(int[] given) {
            row = given.clone();
            for (int k = 0; k < n; k++) {
                if (!attends(k)) {
                    row[k] = NONE;
                }
                if (row[k] != NONE) {
                    order.add(k);
                }
                at[k] = men.get(k).home;
                arrival[k] = NONE;
                looked.add(new HashSet<>());
            }
            order.sort((a, b) -> ahead(a, b) == a ? -1 : 1);
            for (int s = 0; s < places.size(); s++) {
                lodge.add(new HashSet<>());
            }
        }

        Outcome go() {
            out.nights = new int[n][100][];
            out.given = new int[places.size()][2];
            for (int day = 0; day < 100; day++) {
                duty = places.stream().mapToInt(p -> p.duty).toArray();
                for (int k : order) {
                    if (row[k] <= day && at[k] != 0) {
                        ask(k, day);
                    }
                }
                for (int s = 1; s < places.size(); s++) {
                    int gone = places.get(s).duty - duty[s];
                    out.given[s][0] += gone;
                    out.given[s][1] = Math.max(out.given[s][1], gone);
                }
                for (int k = 0; k < n; k++) {
                    int state = at[k] == 0 ? 2 : at[k] == men.get(k).home ? 0 : 1;
                    out.nights[k][day] = new int[] {at[k], state, yields[k], held[k], cost[k]};
                }
            }
            finish();
            return out;
        }

        private void finish() {
            out.ends = new int[n][];
            for (int k : order) {
                int late = arrival[k] == NONE ? 100 : Math.max(0, arrival[k] - men.get(k).due);
                late = Math.max(0, late - excused[k]);
                int fine = coins("fine", k, late);
                out.ends[k] = new int[] {arrival[k], late, excused[k], fine, cost[k] + fine, hired[k]};
                out.yields += yields[k];
                out.cost += cost[k] + fine;
            }
        }

        private boolean fails(int k, int gate) {
            Man m = men.get(k);
            return !looked.get(k).contains(gate) && (m.guns > m.paperGuns || m.women > m.paperWomen);
        }

        private boolean shut(int s, int day) {
            return places.get(s).heights[day] >= places.get(s).shut;
        }

        private boolean can(int k, List<Integer> way, int steps, int day) {
            int hours = 0;
            for (int i = 0; i < steps; i++) {
                hours += places.get(way.get(i)).hours;
                if (shut(way.get(i), day)) {
                    return false;
                }
                if (i > 0 && places.get(way.get(i)).gate && fails(k, way.get(i))) {
                    return false;
                }
            }
            return hours <= text.numbers.get("march");
        }

        private void ask(int k, int day) {
            int room = coins("room", k, 0);
            if (held[k] > 0) {
                held[k]--;
                cost[k] += room;
                return;
            }
            List<Integer> way = toCity(at[k]);
            int goal = 0;
            int farthest = 0;
            for (int steps = 1; steps < way.size(); steps++) {
                if (can(k, way, steps, day)) {
                    farthest = steps;
                    int s = way.get(steps);
                    if (s == 0 || lodge.get(s).size() < places.get(s).houses) {
                        goal = steps;
                    }
                }
            }
            if (goal < farthest) {
                yields[k]++;
            }
            if (goal == 0 && shut(at[k], day)) {
                excused[k]++;
            }
            lodge.get(at[k]).remove(k);
            for (int i = 0; i < goal; i++) {
                int wanted = coins("bearers", k, 0);
                int gives = Math.min(wanted, duty[way.get(i)]);
                duty[way.get(i)] -= gives;
                hired[k] += wanted - gives;
                cost[k] += (wanted - gives) * text.numbers.get("pay");
                int s = way.get(i + 1);
                if (places.get(s).gate) {
                    if (fails(k, s)) {
                        held[k] = text.numbers.get("hold");
                    }
                    looked.get(k).add(s);
                }
            }
            at[k] = way.get(goal);
            if (at[k] == 0) {
                arrival[k] = day;
            } else if (at[k] != men.get(k).home) {
                cost[k] += room;
                lodge.get(at[k]).add(k);
            }
        }
    }

    int judge(int what) {
        Outcome o = new Course(rowAtHand()).go();
        int arrive = 0;
        int last = NONE;
        for (int[] e : o.ends) {
            if (e != null && e[0] != NONE) {
                arrive++;
                last = Math.max(last, e[0]);
            }
        }
        return what == 0 ? o.yields : what == 1 ? o.cost : what == 2 ? arrive : what == 3 ? last : NONE;
    }

    int night(int lord, int day, int what) {
        if (!has(lord) || !in(day, 0, 99) || !in(what, 0, 4)) {
            return NONE;
        }
        return new Course(rowAtHand()).go().nights[lord][day][what];
    }

    int end(int lord, int what) {
        if (!has(lord) || !in(what, 0, 5)) {
            return NONE;
        }
        int[] e = new Course(rowAtHand()).go().ends[lord];
        return e == null ? NONE : e[what];
    }

    int given(int station, int what) {
        if (!in(station, 1, places.size() - 1) || !in(what, 0, 1)) {
            return NONE;
        }
        return new Course(rowAtHand()).go().given[station][what];
    }

    /** All rows of the given days of each lord. */
    private List<int[]> rows(List<List<Integer>> days) {
        List<int[]> all = new ArrayList<>(List.of(new int[0]));
        for (List<Integer> some : days) {
            List<int[]> longer = new ArrayList<>();
            for (int[] row : all) {
                for (int day : some) {
                    int[] more = Arrays.copyOf(row, row.length + 1);
                    more[row.length] = day;
                    longer.add(more);
                }
            }
            all = longer;
        }
        return all;
    }

    private static List<Integer> span(int from, int to) {
        List<Integer> all = new ArrayList<>();
        for (int d = from; d <= to; d++) {
            all.add(d);
        }
        return all;
    }

    private int[] best(List<List<Integer>> days, boolean again) {
        BigInteger count = BigInteger.ONE;
        for (List<Integer> some : days) {
            count = count.multiply(BigInteger.valueOf(some.size()));
        }
        if (count.compareTo(BigInteger.valueOf(2000)) > 0) {
            looks = 2000;
            return null;
        }
        looks = count.intValue();
        int[] bestRow = null;
        int[] bestKey = null;
        for (int[] row : rows(days)) {
            Outcome o = new Course(row).go();
            int moved = 0;
            for (int k = 0; again && k < row.length; k++) {
                if (attends(k) && row[k] != men.get(k).day) {
                    moved += 10 - men.get(k).rank;
                }
            }
            int[] key = {moved, o.yields, o.cost};
            if (bestRow == null || Arrays.compare(key, bestKey) < 0
                    || Arrays.equals(key, bestKey) && Arrays.compare(row, bestRow) < 0) {
                bestRow = row;
                bestKey = key;
            }
        }
        return bestRow;
    }

    private int take(int[] row) {
        int moved = 0;
        for (int k = 0; k < row.length; k++) {
            if (attends(k) && men.get(k).day != row[k]) {
                moved++;
            }
            men.get(k).day = row[k];
        }
        return moved;
    }

    int plan() {
        List<List<Integer>> days = new ArrayList<>();
        for (int k = 0; k < men.size(); k++) {
            days.add(attends(k) ? span(men.get(k).from, men.get(k).to) : List.of(NONE));
        }
        int[] row = best(days, false);
        if (row == null) {
            return NONE;
        }
        take(row);
        return judge(0);
    }

    int anew(int day) {
        if (!in(day, 0, 99)) {
            return NONE;
        }
        List<List<Integer>> days = new ArrayList<>();
        for (int k = 0; k < men.size(); k++) {
            Man m = men.get(k);
            if (!attends(k)) {
                days.add(List.of(NONE));
            } else if (m.day != NONE && m.day < day) {
                days.add(List.of(m.day));
            } else {
                days.add(span(Math.max(m.from, day), m.to));
            }
        }
        int[] row = best(days, true);
        return row == null ? NONE : take(row);
    }

    int row(int what) {
        return what == 0 ? looks : has(what - 1) ? men.get(what - 1).day : NONE;
    }

    int known(int lord, int station, int day, int what) {
        if (!has(lord) || !in(station, 0, places.size() - 1) || !in(day, 0, 99) || !in(what, 0, 1)) {
            return -2;
        }
        int[][] nights = new Course(rowAtHand()).go().nights[lord];
        int latest = NONE;
        int where = NONE;
        for (int night = 0; night < 100; night++) {
            int hours = between(nights[night][0], station);
            int news = text.numbers.get("news");
            int later = hours / news + (hours % news == 0 ? 0 : 1);
            if (night + later <= day) {
                latest = night;
                where = nights[night][0];
            }
        }
        return what == 0 ? latest : where;
    }

    /** -100 and -101 stand for the two exceptions. */
    int look(int station, int what) {
        if (!in(station, 0, places.size() - 1)) {
            return -100;
        }
        if (!in(what, 0, 5)) {
            return -101;
        }
        Place p = places.get(station);
        return new int[] {p.next, p.hours, p.houses, p.duty, p.shut, p.gate ? 1 : 0}[what];
    }

    int count(int what) {
        switch (what) {
            case 0: return places.size();
            case 1: return men.size();
            case 2: return year;
            case 3: return text.numbers.get("march");
            case 4: return text.numbers.get("news");
            case 5: return text.numbers.get("hold");
            case 6: return text.numbers.get("pay");
            case 7: return text.knots;
            default: return NONE;
        }
    }
}
