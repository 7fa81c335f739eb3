import java.nio.ByteBuffer;
import java.nio.charset.StandardCharsets;
import java.util.ArrayList;
import java.util.Arrays;
import java.util.HashMap;
import java.util.List;
import java.util.Map;
import java.util.NoSuchElementException;
import java.util.function.Supplier;

/**
 * What the tests of the document's boundaries share: counting, telling texts, scenes, and the whole
 * of an object's answers, to see whether a refused call changed anything.
 */
final class Checks {
    static final int NONE = LordsRoad.NONE;
    static final int BAD_INDEX = -100;
    static final int NO_ELEMENT = -101;
    static final int NO = 0;
    static final int YES = 1;
    private static final int LEAST = Integer.MIN_VALUE;
    private static final int MOST = Integer.MAX_VALUE;

    /** A call of the face with its numbers; a boolean counts 1 or 0. */
    interface Call {
        int of(LordsRoad x, int... a);
    }

    static final Supplier<LordsRoad> NEW = LordsRoad::new;
    static final Supplier<LordsRoad> BUSY = Checks::busy;
    static final Supplier<LordsRoad> FULL = Checks::full;
    private static final Map<Supplier<LordsRoad>, List<Integer>> SHOWN = new HashMap<>();
    private static String sentence = "";
    private static int wrong = 0;
    private static int checks = 0;

    private Checks() {
    }

    /** The promise and the sentence that the checks behind this call are of. */
    static void of(int promise, String words) {
        sentence = "promise " + promise + " (" + words + ")";
    }

    static void due(String what, int got, int want) {
        checks++;
        if (got != want) {
            wrong++;
            System.out.println(sentence + ": " + what + " answered " + got + ", due is " + want);
        }
    }

    static void due(String what, boolean got, boolean want) {
        due(what, got ? YES : NO, want ? YES : NO);
    }

    static void end() {
        System.out.println(checks + " checks, " + wrong + " wrong");
        if (wrong != 0) {
            System.exit(1);
        }
    }

    /** Text behind the tape; what is missing of the last twenty bytes comes as bytes 0. */
    static void put(LordsRoad x, String text) {
        byte[] bytes = text.getBytes(StandardCharsets.ISO_8859_1);
        ByteBuffer padded = ByteBuffer.allocate((bytes.length + 19) / 20 * 20);
        padded.put(bytes);
        padded.rewind();
        while (padded.remaining() > 0) {
            x.feed(padded.getInt(), padded.getInt(), padded.getInt(), padded.getInt(), padded.getInt());
        }
    }

    /** Of an object with an empty tape. */
    static int tell(LordsRoad x, String text) {
        put(x, text);
        return x.edicts(text.length());
    }

    static int look(LordsRoad x, int station, int what) {
        try {
            return x.look(station, what);
        } catch (IndexOutOfBoundsException e) {
            return BAD_INDEX;
        } catch (NoSuchElementException e) {
            return NO_ELEMENT;
        }
    }

    /** Stations one behind the other, 1 next to the city: so many hours, one house, duty 999, shut at 50. */
    static LordsRoad chain(int... hours) {
        LordsRoad x = new LordsRoad();
        for (int k = 0; k < hours.length; k++) {
            x.station(k, hours[k], 1, 999, 50, false);
        }
        return x;
    }

    /** A lord of so many men and nothing else. */
    static int plainLord(LordsRoad x, int home, int rank, int men) {
        return x.lord(home, rank, 0, men, 0, 0);
    }

    /** Four ways, three lords, a gate, floods, all nine lines, a fault, a plan, a row, bytes on the tape. */
    static LordsRoad busy() {
        LordsRoad x = new LordsRoad();
        x.station(0, 6, 1, 30, 50, true);
        x.station(1, 5, 1, 20, 60, false);
        x.station(2, 4, 2, 10, 100, false);
        x.station(1, 7, 3, 5, 40, false);
        x.lord(3, 1, 500, 100, 5, 0);
        x.lord(3, 0, 300, 250, 0, 7);
        x.lord(4, 2, 200, 90, 0, 0);
        x.papers(0, 5, 3);
        x.papers(1, 0, 6);
        x.window(0, 0, 3, 2);
        x.window(1, 1, 4, 3);
        x.window(2, 2, 3, 4);
        x.year(1701);
        x.height(2, 2, 3, 60);
        x.height(4, 2, 2, 45);
        x.height(1, 4, 4, 49);
        tell(x, "march 10;news 5;hold 2;pay 4;attend worth<600;bearers men/9;room 3+rank;"
                + "fine late*7+year%10;yield 0-rank,men;");
        tell(x, "room 1;room 2;");
        x.plan();
        x.set(0, 1);
        x.set(2, 2);
        put(x, "room 5;fine 3;pay 1;");
        return x;
    }

    /** Twelve stations, six lords, 600 bytes on the tape. */
    static LordsRoad full() {
        LordsRoad x = new LordsRoad();
        for (int k = 0; k < 11; k++) {
            x.station(k, 2, 1 + k % 3, 20 * k, 60, k % 4 == 2);
        }
        for (int k = 0; k < 6; k++) {
            x.lord(11 - k, k, 100 * k, 90 + k, k % 2, 0);
            x.window(k, k, k + 1, 9);
            x.set(k, k);
        }
        put(x, "pay 7;" + " ".repeat(585) + "room 44; ");
        return x;
    }

    /** Every answer that a call can have changed; plan and anew come last, since they change the row. */
    static List<Integer> show(LordsRoad x) {
        List<Integer> all = new ArrayList<>();
        for (int what = 0; what < 8; what++) {
            all.add(x.count(what));
        }
        all.add(x.fault(0));
        all.add(x.fault(1));
        showRow(x, all);
        int stations = x.count(0);
        int lords = x.count(1);
        for (int s = 0; s < stations; s++) {
            for (int what = 0; what < 6; what++) {
                all.add(x.look(s, what));
            }
            all.add(x.between(s, 0));
            all.add(x.given(s, 0));
            all.add(x.given(s, 1));
        }
        for (int k = 0; k < lords; k++) {
            showLord(x, k, all);
        }
        int length = x.feed(0x20202020, 0x20202020, 0x20202020, 0x20202020, 0x20202020);
        all.add(length);
        all.add(x.edicts(length == NONE ? 600 : length));
        all.add(x.fault(1));
        all.add(x.count(6));
        all.add(x.wants(0, 2, 0));
        all.add(x.anew(2));
        showRow(x, all);
        all.add(x.plan());
        showRow(x, all);
        return all;
    }

    private static void showRow(LordsRoad x, List<Integer> all) {
        for (int what = 0; what < 7; what++) {
            all.add(x.row(what));
        }
        for (int what = 0; what < 4; what++) {
            all.add(x.judge(what));
        }
    }

    private static void showLord(LordsRoad x, int lord, List<Integer> all) {
        int lords = x.count(1);
        int[] days = lords > 3 ? new int[] {1, 99} : new int[] {0, 1, 2, 3, 4, 5, 6, 99};
        int[] seen = {0, x.count(0) - 1};
        for (int what = 0; what < 3; what++) {
            all.add(x.wants(lord, what, 0));
        }
        all.add(x.wants(lord, 3, 100));
        all.add(x.ahead(lord, (lord + 1) % lords));
        for (int day : days) {
            for (int what = 0; what < 5; what++) {
                all.add(x.night(lord, day, what));
            }
        }
        for (int what = 0; what < 6; what++) {
            all.add(x.end(lord, what));
        }
        for (int station : seen) {
            all.add(x.known(lord, station, 4, 0));
            all.add(x.known(lord, station, 99, 1));
        }
    }

    /** The call answers as due, and behind it the object answers all as its twin without the call. */
    static void refused(Supplier<LordsRoad> scene, String name, int want, Call call, int... a) {
        LordsRoad x = scene.get();
        due(name + Arrays.toString(a), call.of(x, a), want);
        List<Integer> twin = SHOWN.computeIfAbsent(scene, made -> show(made.get()));
        due("the state is as ahead of " + name + Arrays.toString(a),
                show(x).equals(twin), true);
    }

    /** Each number is put out of its bounds, one at a time, by one and by far; the others are good. */
    static void refusedBeside(Supplier<LordsRoad> scene, String name, int want, Call call, int[] good, int[][] bounds) {
        for (int k = 0; k < good.length; k++) {
            int[] bad = {bounds[k][0] - 1, bounds[k][1] + 1, LEAST, MOST};
            for (int value : bad) {
                int[] a = good.clone();
                a[k] = value;
                refused(scene, name, want, call, a);
            }
        }
    }

    /** Each number at its least and at its most, the others good: the call is taken. */
    static void takenAt(Supplier<LordsRoad> scene, String name, int want, Call call, int[] good, int[][] bounds) {
        for (int k = 0; k < good.length; k++) {
            for (int value : bounds[k]) {
                int[] a = good.clone();
                a[k] = value;
                due(name + Arrays.toString(a), call.of(scene.get(), a), want);
            }
        }
    }

    static int[] far() {
        return new int[] {LEAST, MOST};
    }
}
