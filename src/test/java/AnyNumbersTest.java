import java.util.NoSuchElementException;
import java.util.Random;

/**
 * Any numbers in any state: no call throws but look, which throws its two exceptions where the
 * document says, and every answer is one that the document can give. The seeds are fixed.
 */
public final class AnyNumbersTest {
    private static final int CALLS = 512;
    private static final int[] ODD = {Integer.MIN_VALUE, Integer.MIN_VALUE + 1, -65536, -256, -100, -3, -2, -1, 0, 1, 2,
        5, 6, 7, 11, 12, 13, 60, 61, 99, 100, 101, 580, 600, 601, 999, 1000, 9999, 10000, 65536, 1 << 30,
        Integer.MAX_VALUE - 1, Integer.MAX_VALUE};
    private static final String[] WORDS = {"march ", "news ", "hold ", "pay ", "attend ", "bearers ", "room ", "fine ",
        "yield ", "year", "rank", "worth", "men", "house", "hours", "guns", "women", "late", "not ", " and ", " or ",
        "(", ")", "<", "=", ">", "+", "-", "*", "/", "%", ";", ";\n", ",", "0", "1", "9", "24", "99999", "0000000"};
    private static int wrong = 0;
    private static int calls = 0;

    private final Random random;
    private final long seed;
    private final LordsRoad x = new LordsRoad();

    private AnyNumbersTest(long seed) {
        this.seed = seed;
        random = new Random(seed);
    }

    public static void main(String[] args) {
        int seeds = args.length > 0 ? Integer.parseInt(args[0]) : 600;
        for (long seed = 0; seed < seeds && wrong < 10; seed++) {
            new AnyNumbersTest(seed).runAll();
        }
        System.out.println(calls + " calls with any numbers, " + wrong + " wrong");
        if (wrong != 0) {
            System.exit(1);
        }
    }

    private void runAll() {
        for (int k = 0; k < CALLS; k++) {
            int which = random.nextInt(26);
            try {
                anyCall(which);
            } catch (RuntimeException | StackOverflowError e) {
                fail("call " + which + " threw " + e);
            }
        }
    }

    private void fail(String what) {
        wrong++;
        System.out.println("seed " + seed + ": " + what);
    }

    private void within(String call, int got, int least, int most) {
        calls++;
        if (got < least || got > most) {
            fail(call + " answered " + got + ", which is not of " + least + " .. " + most);
        }
    }

    /** Mostly small, so that many calls are taken; else one beside a bound, or any at all. */
    private int any() {
        switch (random.nextInt(8)) {
            case 0: return ODD[random.nextInt(ODD.length)];
            case 1: return random.nextInt(16) == 0 ? random.nextInt() : random.nextInt(101);
            case 2: return random.nextInt(13);
            default: return random.nextInt(4);
        }
    }

    private void anyCall(int which) {
        switch (which) {
            case 0: within("feed", x.feed(any(), any(), random.nextInt(), any(), random.nextInt()), -1, 600); break;
            case 1: within("edicts", x.edicts(any()), -2, 9); break;
            case 2: within("fault", x.fault(any()), -1, 600); break;
            case 3: x.year(any()); break;
            case 4: case 5: within("station", x.station(any(), any(), any(), any(), any(), random.nextBoolean()), -1, 11); break;
            case 6: x.height(any(), any(), any(), any()); break;
            case 7: within("between", x.between(any(), any()), -1, 220); break;
            case 8: case 9: within("lord", x.lord(any(), any(), any(), any(), any(), any()), -1, 5); break;
            case 10: x.papers(any(), any(), any()); break;
            case 11: x.window(any(), any(), any(), any()); break;
            case 12: within("wants", x.wants(any(), any(), any()), -1, 9999); break;
            case 13: within("ahead", x.ahead(any(), any()), -1, 5); break;
            case 14: x.set(any(), any()); break;
            case 15: within("judge", x.judge(any()), -1, Integer.MAX_VALUE); break;
            case 16: within("night", x.night(any(), any(), any()), -1, Integer.MAX_VALUE); break;
            case 17: within("end", x.end(any(), any()), -1, Integer.MAX_VALUE); break;
            case 18: within("given", x.given(any(), any()), -1, 99900); break;
            case 19: within("plan", x.plan(), -1, 600); break;
            case 20: within("anew", x.anew(any()), -1, 6); break;
            case 21: within("row", x.row(any()), -1, 2000); break;
            case 22: within("known", x.known(any(), any(), any(), any()), -2, 99); break;
            case 23: look(any(), any()); break;
            case 24: within("count", x.count(any()), -1, 9999); break;
            default: tellWords(); break;
        }
    }

    private void look(int station, int what) {
        boolean there = station >= 0 && station < x.count(0);
        String due = !there ? "index" : what < 0 || what > 5 ? "element" : "";
        String thrown = "";
        try {
            within("look", x.look(station, what), 0, 999);
        } catch (IndexOutOfBoundsException e) {
            thrown = "index";
        } catch (NoSuchElementException e) {
            thrown = "element";
        }
        calls++;
        if (!thrown.equals(due)) {
            fail("look(" + station + ", " + what + ") threw <" + thrown + ">, due is <" + due + ">");
        }
    }

    /** Words of the little language in any order, behind whatever is on the tape by then. */
    private void tellWords() {
        StringBuilder text = new StringBuilder();
        int pieces = 1 + random.nextInt(random.nextInt(5) == 0 ? 90 : 9);
        for (int k = 0; k < pieces && text.length() < 400; k++) {
            text.append(WORDS[random.nextInt(WORDS.length)]);
        }
        if (random.nextBoolean()) {
            x.edicts(0);
        }
        Checks.put(x, text.toString());
        within("edicts", x.edicts(text.length()), -2, 9);
        within("fault", x.fault(0), 0, 4);
    }
}
