import java.nio.ByteBuffer;
import java.nio.charset.StandardCharsets;
import java.util.Random;

/** Long runs of calls drawn from fixed seeds, each answer held against the slow model's. */
public final class AgainstModelTest {
    private static final String[] LINES = {"march", "news", "hold", "pay", "attend", "bearers", "room", "fine", "yield"};
    private static final String[] LEAVES = {"year", "rank", "worth", "men", "house", "hours", "guns", "women"};
    private static final String[] SIGNS = {"+", "-", "*", "/", "%", "<", "<=", "=", "<>", ">=", ">", " and ", " or "};
    private static final String[] PIECES = {"march ", "news ", "hold ", "pay ", "attend ", "bearers ", "room ", "fine ",
        "yield ", "year", "rank", "late", "house", "not ", " and ", " or ", "(", ")", "<", "=", ">", "+", "-", "*", "/",
        "%", ";", ",", "1", "0", "7", "99", "100000", " ", "\n", "\t", "x", "A"};
    /** So that the calls of the last turn are still among the 512 that the document speaks of. */
    private static final int MOST_MADE = 470;
    private static int wrong = 0;
    private static int calls = 0;

    private final Random random;
    private final long seed;
    private LordsRoad one = new LordsRoad();
    private Model other = new Model();
    private int made = 0;

    private AgainstModelTest(long seed) {
        this.seed = seed;
        random = new Random(seed);
    }

    public static void main(String[] args) {
        int from = args.length > 0 ? Integer.parseInt(args[0]) : 0;
        int to = args.length > 1 ? Integer.parseInt(args[1]) : 400;
        for (long seed = from; seed < to && wrong < 10; seed++) {
            new AgainstModelTest(seed).runAll();
        }
        System.out.println(calls + " calls held against the model, " + wrong + " wrong");
        if (wrong != 0) {
            System.exit(1);
        }
    }

    private void due(String call, int got, int want) {
        calls++;
        made++;
        if (got != want) {
            wrong++;
            System.out.println("seed " + seed + ": " + call + " answered " + got + ", the model says " + want);
        }
    }

    private void due(String call, boolean got, boolean want) {
        due(call, got ? 1 : 0, want ? 1 : 0);
    }

    private int upTo(int n) {
        return random.nextInt(n + 1);
    }

    /** Mostly a number of the range, now and then one right beside it. */
    private int near(int a, int b) {
        if (b < a) {
            return a;
        }
        return random.nextInt(25) == 0 ? (random.nextBoolean() ? a - 1 : b + 1) : a + random.nextInt(b - a + 1);
    }

    private void runAll() {
        if (seed % 4 == 3) {
            for (int k = 0; k < 20 && made < MOST_MADE; k++) {
                tell(garbledText());
            }
            return;
        }
        buildRoad();
        if (random.nextInt(3) != 0) {
            tell(wholeText());
        }
        for (int k = 0; k < 60 && made < MOST_MADE; k++) {
            anyCall();
        }
    }

    private void buildRoad() {
        int stations = 3 + upTo(9);
        for (int k = 0; k < stations; k++) {
            int next = random.nextInt(3) == 0 ? near(0, k) : k;
            station(next, near(1, random.nextInt(6) == 0 ? 20 : 6), near(1, random.nextBoolean() ? 1 : 3),
                    near(0, random.nextBoolean() ? 999 : 60), near(1, 100), random.nextInt(4) == 0);
        }
        int lords = 2 + upTo(4);
        for (int k = 0; k < lords; k++) {
            lord();
        }
        for (int k = 0; k < other.men.size(); k++) {
            int from = upTo(8);
            window(k, from, from + upTo(2), upTo(20));
            set(k, upTo(6));
        }
        for (int k = 0; k < 5; k++) {
            height();
        }
    }

    private void station(int next, int hours, int houses, int duty, int shut, boolean gate) {
        due("station(" + next + ", " + hours + ", " + houses + ", " + duty + ", " + shut + ", " + gate + ")",
                one.station(next, hours, houses, duty, shut, gate),
                other.station(next, hours, houses, duty, shut, gate));
    }

    private void lord() {
        int home = near(1, other.places.size() - 1);
        int rank = near(0, random.nextBoolean() ? 2 : 9);
        int worth = near(0, 999);
        int men = near(1, 999);
        int guns = near(0, random.nextBoolean() ? 1 : 99);
        int women = random.nextInt(3) == 0 ? near(0, 99) : 0;
        due("lord(" + home + ", " + rank + ", " + worth + ", " + men + ", " + guns + ", " + women + ")",
                one.lord(home, rank, worth, men, guns, women), other.lord(home, rank, worth, men, guns, women));
    }

    private void window(int lord, int from, int to, int due) {
        due("window(" + lord + ", " + from + ", " + to + ", " + due + ")",
                one.window(lord, from, to, due), other.window(lord, from, to, due));
    }

    private void set(int lord, int day) {
        due("set(" + lord + ", " + day + ")", one.set(lord, day), other.set(lord, day));
    }

    private void height() {
        int station = near(1, other.places.size() - 1);
        int from = near(0, random.nextInt(4) == 0 ? 99 : 12);
        int to = from + near(0, 8);
        int h = near(0, 99);
        due("height(" + station + ", " + from + ", " + to + ", " + h + ")",
                one.height(station, from, to, h), other.height(station, from, to, h));
    }

    private void tell(String text) {
        byte[] bytes = text.getBytes(StandardCharsets.ISO_8859_1);
        ByteBuffer padded = ByteBuffer.allocate((bytes.length + 19) / 20 * 20);
        padded.put(bytes);
        padded.rewind();
        while (padded.remaining() > 0) {
            int[] n = {padded.getInt(), padded.getInt(), padded.getInt(), padded.getInt(), padded.getInt()};
            due("feed", one.feed(n[0], n[1], n[2], n[3], n[4]), other.feed(n));
        }
        due("edicts of " + text, one.edicts(bytes.length), other.edicts(bytes.length));
        for (int what = -1; what < 3; what++) {
            due("fault(" + what + ") of " + text, one.fault(what), other.fault(what));
        }
        due("count(7)", one.count(7), other.count(7));
    }

    private String wholeText() {
        StringBuilder text = new StringBuilder();
        for (String line : LINES) {
            if (random.nextInt(3) == 0) {
                continue;
            }
            text.append(line).append(' ');
            switch (line) {
                case "march": text.append(1 + upTo(23)); break;
                case "news": text.append(1 + upTo(40)); break;
                case "hold": text.append(1 + upTo(8)); break;
                case "pay": text.append(upTo(99)); break;
                case "attend": text.append(random.nextBoolean() ? "1" : expression(2, false)); break;
                case "fine": text.append(random.nextBoolean() ? "late*7" : expression(3, true)); break;
                case "yield":
                    text.append(expression(1, false));
                    for (int k = upTo(2); k > 0; k--) {
                        text.append(", ").append(expression(1, false));
                    }
                    break;
                default: text.append(expression(2, false)); break;
            }
            text.append(random.nextBoolean() ? "; " : ";\n");
        }
        return text.length() <= 600 ? text.toString() : "";
    }

    /** A side that any sign may stand beside. */
    private String expression(int depth, boolean late) {
        if (depth == 0 || random.nextInt(5) == 0) {
            int pick = random.nextInt(10);
            return pick < 2 && late ? "late" : pick < 5 ? String.valueOf(upTo(random.nextBoolean() ? 9 : 99999))
                    : LEAVES[random.nextInt(LEAVES.length)];
        }
        String left = expression(depth - 1, late);
        String right = expression(depth - 1, late);
        String body = left + SIGNS[random.nextInt(SIGNS.length)] + right;
        switch (random.nextInt(5)) {
            case 0: return "(not " + left + ")";
            case 1: return "-" + left;
            default: return "(" + body + ")";
        }
    }

    /** Texts near the grammar, so that faults of each kind come up at many places. */
    private String garbledText() {
        StringBuilder text = new StringBuilder();
        int pieces = 1 + upTo(12);
        switch (random.nextInt(4)) {
            case 0:
                text.append(wholeText());
                if (text.length() > 0) {
                    text.setCharAt(random.nextInt(text.length()), PIECES[random.nextInt(PIECES.length)].charAt(0));
                }
                break;
            case 1:
                text.append(LINES[4 + random.nextInt(5)]).append(' ');
                chain(text, 60 + upTo(45));
                break;
            case 2:
                text.append(LINES[4 + random.nextInt(5)]).append(' ');
                for (int k = 0; k < pieces; k++) {
                    text.append(PIECES[9 + random.nextInt(PIECES.length - 9)]);
                }
                break;
            default:
                for (int k = 0; k < pieces; k++) {
                    text.append(PIECES[random.nextInt(PIECES.length)]);
                }
                break;
        }
        if (text.length() > 590) {
            text.setLength(590);
        }
        return text.toString();
    }

    private void chain(StringBuilder text, int knots) {
        int open = 0;
        for (int k = 0; k < knots; k++) {
            int pick = random.nextInt(6);
            if (pick == 0 && open < 9) {
                text.append('(');
                open++;
            } else if (pick == 1) {
                text.append(" -");
            }
            text.append(random.nextInt(40) == 0 ? "late" : "1");
            if (pick == 2 && open > 0) {
                text.append(')');
                open--;
            }
            text.append(random.nextInt(9) == 0 ? " or not " : SIGNS[random.nextInt(4)]);
        }
        text.append('1');
        for (; open > 0; open--) {
            text.append(')');
        }
        text.append(';');
    }

    private void anyCall() {
        int lord = near(0, other.men.size() - 1);
        int station = near(0, other.places.size() - 1);
        int day = near(0, random.nextBoolean() ? 99 : 15);
        switch (random.nextInt(20)) {
            case 0: station(near(0, other.places.size() - 1), near(1, 20), near(1, 3), near(0, 999), near(1, 100), random.nextBoolean()); break;
            case 1: height(); break;
            case 2: lord(); break;
            case 3: papers(lord); break;
            case 4: window(lord, near(0, 10), near(0, 14), near(0, 99)); break;
            case 5: case 6: set(lord, near(-1, random.nextInt(4) == 0 ? 60 : 8)); break;
            case 7: year(); break;
            case 8: plan(); break;
            case 9: case 10: anew(day); break;
            case 11: tell(random.nextInt(3) == 0 ? garbledText() : wholeText()); break;
            case 12: wantsAndAhead(lord); break;
            case 13: looks(station); break;
            case 14: between(station); break;
            case 15: knowns(lord, station, day); break;
            default: askRun(lord, station, day); break;
        }
    }

    private void papers(int lord) {
        int guns = near(0, 99);
        int women = near(0, 99);
        due("papers(" + lord + ", " + guns + ", " + women + ")",
                one.papers(lord, guns, women), other.papers(lord, guns, women));
    }

    private void year() {
        int y = near(0, 9999);
        due("year(" + y + ")", one.year(y), other.year(y));
    }

    /** The model goes through every row in full, so only few at a time. */
    private boolean isSmall() {
        long rows = 1;
        for (Model.Man m : other.men) {
            rows *= m.to - m.from + 1;
        }
        return rows <= 90 || rows > 2000 && other.men.stream().allMatch(m -> m.to - m.from > 3);
    }

    private void plan() {
        if (isSmall()) {
            due("plan()", one.plan(), other.plan());
            rows();
        }
    }

    private void anew(int day) {
        if (isSmall() || day > 60) {
            due("anew(" + day + ")", one.anew(day), other.anew(day));
            rows();
        }
    }

    private void rows() {
        for (int what = -1; what < 8; what++) {
            due("row(" + what + ")", one.row(what), other.row(what));
        }
        for (int what = -1; what < 5; what++) {
            due("judge(" + what + ")", one.judge(what), other.judge(what));
        }
    }

    private void wantsAndAhead(int lord) {
        for (int what = -1; what < 5; what++) {
            int v = near(0, 100);
            due("wants(" + lord + ", " + what + ", " + v + ")", one.wants(lord, what, v), other.wants(lord, what, v));
        }
        for (int b = -1; b < 7; b++) {
            due("ahead(" + lord + ", " + b + ")", one.ahead(lord, b), other.ahead(lord, b));
        }
    }

    private void looks(int station) {
        for (int what = -1; what < 7; what++) {
            int got;
            try {
                got = one.look(station, what);
            } catch (IndexOutOfBoundsException e) {
                got = -100;
            } catch (java.util.NoSuchElementException e) {
                got = -101;
            }
            due("look(" + station + ", " + what + ")", got, other.look(station, what));
        }
        for (int what = -1; what < 9; what++) {
            due("count(" + what + ")", one.count(what), other.count(what));
        }
    }

    private void between(int station) {
        for (int b = -1; b < 13; b++) {
            due("between(" + station + ", " + b + ")", one.between(station, b), other.between(station, b));
        }
    }

    private void knowns(int lord, int station, int day) {
        for (int what = -1; what < 3; what++) {
            due("known(" + lord + ", " + station + ", " + day + ", " + what + ")",
                    one.known(lord, station, day, what), other.known(lord, station, day, what));
        }
    }

    private void askRun(int lord, int station, int day) {
        for (int what = -1; what < 5; what++) {
            due("judge(" + what + ")", one.judge(what), other.judge(what));
        }
        for (int what = -1; what < 6; what++) {
            due("night(" + lord + ", " + day + ", " + what + ")",
                    one.night(lord, day, what), other.night(lord, day, what));
        }
        for (int what = -1; what < 7; what++) {
            due("end(" + lord + ", " + what + ")", one.end(lord, what), other.end(lord, what));
        }
        for (int what = -1; what < 3; what++) {
            due("given(" + station + ", " + what + ")", one.given(station, what), other.given(station, what));
        }
    }
}
