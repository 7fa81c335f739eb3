/** The boundaries of promises 22 to 24, and of the NEWS of part 6 of the document's terms. */
public final class NewsAndLooksTest {
    private static final int NONE = Checks.NONE;
    private static final int REFUSED = -2;

    public static void main(String[] args) {
        knownRefused();
        newsUpwards();
        newsOfOneWhoStays();
        newsOfOneUnderWay();
        newsOfTheCity();
        newsOverBranches();
        newsToTheLastDay();
        lookRefused();
        lookAtAll();
        countRefused();
        countAtAll();
        Checks.end();
    }

    private static void knownRefused() {
        Checks.of(22, "-2: no such ones");
        Checks.Call known = (x, a) -> x.known(a[0], a[1], a[2], a[3]);
        Checks.refusedBeside(Checks.BUSY, "known", REFUSED, known, new int[] {1, 2, 9, 1},
                new int[][] {{0, 2}, {0, 4}, {0, 99}, {0, 1}});
        Checks.refusedBeside(Checks.FULL, "known", REFUSED, known, new int[] {1, 2, 9, 1},
                new int[][] {{0, 5}, {0, 11}, {0, 99}, {0, 1}});
        Checks.refused(Checks.NEW, "known", REFUSED, known, 0, 0, 0, 0);
        Checks.refused(Checks.NEW, "known", REFUSED, known, 0, 1, 0, 0);
    }

    private static void newsUpwards() {
        Checks.of(22, "so many DAYS later as BETWEEN them by news, upwards");
        int[][] due = {{1, 25}, {2, 13}, {4, 7}, {5, 5}, {6, 5}, {7, 4}, {8, 4}, {9, 3}, {12, 3}, {13, 2}, {24, 2},
            {25, 1}, {26, 1}, {99, 1}};
        for (int[] one : due) {
            LordsRoad x = Checks.chain(20, 5);
            Checks.plainLord(x, 2, 0, 1);
            Checks.tell(x, "news " + one[0] + ";");
            String news = "news " + one[0] + ", 25 hours";
            Checks.due("a day less, " + news, x.known(0, 0, one[1] - 1, 0), NONE);
            Checks.due("a day less, where, " + news, x.known(0, 0, one[1] - 1, 1), NONE);
            Checks.due("that day, " + news, x.known(0, 0, one[1], 0), 0);
            Checks.due("that day, where, " + news, x.known(0, 0, one[1], 1), 2);
            Checks.due("a day more, " + news, x.known(0, 0, one[1] + 1, 0), 1);
            Checks.due("the last day, " + news, x.known(0, 0, 99, 0), 99 - one[1]);
            Checks.due("at once at HOME, " + news, x.known(0, 2, 0, 0), 0);
        }
        LordsRoad x = Checks.chain(20, 20, 20, 20, 20, 20, 20, 20, 20, 20, 20);
        Checks.plainLord(x, 11, 0, 1);
        Checks.tell(x, "news 1;");
        Checks.due("220 hours by 1", x.known(0, 0, 99, 0), NONE);
        Checks.due("220 hours by 1, where", x.known(0, 0, 99, 1), NONE);
        Checks.tell(x, "news 2;");
        Checks.due("220 hours by 2", x.known(0, 0, 99, 0), NONE);
        Checks.tell(x, "news 3;");
        Checks.due("220 hours by 3: 74 DAYS", x.known(0, 0, 73, 0), NONE);
        Checks.due("220 hours by 3: 74 DAYS", x.known(0, 0, 74, 0), 0);
        x.edicts(0);
        Checks.due("without a LINE 24: ten DAYS", x.known(0, 0, 9, 0), NONE);
        Checks.due("without a LINE 24: ten DAYS", x.known(0, 0, 10, 0), 0);
    }

    private static void newsOfOneWhoStays() {
        Checks.of(22, "the latest night of which it is known there by then (HOME, too)");
        LordsRoad x = Checks.chain(8, 8);
        Checks.plainLord(x, 1, 0, 1);
        Checks.tell(x, "news 8;");
        for (int day = 0; day <= 99; day++) {
            Checks.due("at HOME on " + day, x.known(0, 1, day, 0), day);
            Checks.due("a DAY away on " + day, x.known(0, 0, day, 0), day - 1);
            Checks.due("and on the other side", x.known(0, 2, day, 0), day - 1);
            Checks.due("where", x.known(0, 0, day, 1), day == 0 ? NONE : 1);
        }
    }

    private static void newsOfOneUnderWay() {
        Checks.of(22, "the latest night, and where he was");
        LordsRoad x = Checks.chain(8, 8, 8);
        Checks.plainLord(x, 3, 0, 1);
        Checks.tell(x, "news 4;");
        x.set(0, 1);
        // nights: 0 at 3, 1 at 2, 2 at 1, from 3 on in the CITY; each way takes two DAYS
        int[][] nights = {
            {NONE, NONE, NONE, 3, 4, 5, 6}, {NONE, NONE, 2, 2, 2, 3, 4}, {NONE, 1, 1, 1, 2, 2, 2}, {0, 0, 0, 1, 1, 1, 2}};
        int[] at = {3, 2, 1, 0, 0, 0, 0};
        for (int station = 0; station < 4; station++) {
            for (int day = 0; day < 7; day++) {
                int night = nights[station][day];
                Checks.due("known(0, " + station + ", " + day + ", 0)", x.known(0, station, day, 0), night);
                Checks.due("known(0, " + station + ", " + day + ", 1)", x.known(0, station, day, 1),
                        night == NONE ? NONE : at[night]);
            }
        }
        x.set(0, 2);
        Checks.due("by the ROW at hand", x.known(0, 3, 1, 0), 1);
        x.set(0, NONE);
        Checks.due("without a RUN", x.known(0, 3, 99, 0), 99);
        Checks.due("in the CITY, without a RUN", x.known(0, 0, 99, 0), 93);
        x.set(0, 1);
        Checks.tell(x, "news 4;attend 0;");
        Checks.due("who attends not", x.known(0, 0, 99, 1), 3);
    }

    private static void newsOfTheCity() {
        Checks.of(22, "in the CITY, when he has come there");
        LordsRoad x = Checks.chain(8);
        Checks.plainLord(x, 1, 0, 1);
        Checks.tell(x, "news 3;");
        x.set(0, 0);
        for (int day : new int[] {0, 1, 50, 99}) {
            Checks.due("night", x.known(0, 0, day, 0), day);
            Checks.due("where", x.known(0, 0, day, 1), 0);
            Checks.due("night, at his HOME", x.known(0, 1, day, 0), day < 3 ? NONE : day - 3);
            Checks.due("where, at his HOME", x.known(0, 1, day, 1), day < 3 ? NONE : 0);
        }
        for (int day = 1; day <= 3; day++) {
            Checks.due("three DAYS later", x.known(0, 1, day, 0), day < 3 ? NONE : 0);
        }
    }

    private static void newsOverBranches() {
        Checks.of(22, "BETWEEN goes over branches, shut or not");
        LordsRoad x = new LordsRoad();
        x.station(0, 3, 1, 0, 1, true);
        x.station(1, 5, 1, 0, 1, true);
        x.station(1, 7, 1, 0, 1, true);
        Checks.plainLord(x, 2, 0, 1);
        x.height(1, 0, 99, 99);
        x.height(2, 0, 99, 99);
        x.height(3, 0, 99, 99);
        Checks.tell(x, "news 4;");
        int[] later = {2, 2, 0, 3};
        for (int station = 0; station < 4; station++) {
            Checks.due("a DAY less at " + station, x.known(0, station, later[station], 0), 0);
            Checks.due("ten DAYS more at " + station, x.known(0, station, 10 + later[station], 0), 10);
            if (later[station] > 0) {
                Checks.due("none by then at " + station, x.known(0, station, later[station] - 1, 0), NONE);
            }
        }
    }

    private static void newsToTheLastDay() {
        Checks.of(22, "DAYS 0 .. 99");
        LordsRoad x = Checks.chain(8, 8);
        Checks.plainLord(x, 2, 0, 1);
        Checks.tell(x, "news 16;");
        x.set(0, 60);
        x.height(2, 0, 97, 50);
        Checks.due("on the way in night 98", x.known(0, 1, 98, 1), 1);
        Checks.due("known in the CITY on 99", x.known(0, 0, 99, 1), 0);
        Checks.due("of night 99", x.known(0, 0, 99, 0), 99);
        Checks.due("of night 97 on 98", x.known(0, 0, 98, 0), 97);
        Checks.due("at HOME in it", x.known(0, 0, 98, 1), 2);
    }

    private static void lookRefused() {
        Checks.of(23, "IndexOutOfBoundsException: no such STATION");
        Checks.Call look = (x, a) -> Checks.look(x, a[0], a[1]);
        for (int what = 0; what < 6; what++) {
            for (int station : new int[] {5, 6, 11, 12, -1, Integer.MIN_VALUE, Integer.MAX_VALUE}) {
                Checks.refused(Checks.BUSY, "look", Checks.BAD_INDEX, look, station, what);
            }
            Checks.refused(Checks.FULL, "look", Checks.BAD_INDEX, look, 12, what);
            Checks.refused(Checks.NEW, "look", Checks.BAD_INDEX, look, 1, what);
        }
        Checks.of(23, "NoSuchElementException: no such what");
        for (int station = 0; station < 5; station++) {
            for (int what : new int[] {6, 7, -1, Integer.MIN_VALUE, Integer.MAX_VALUE}) {
                Checks.refused(Checks.BUSY, "look", Checks.NO_ELEMENT, look, station, what);
            }
        }
        Checks.refused(Checks.FULL, "look", Checks.NO_ELEMENT, look, 11, 6);
        Checks.refused(Checks.NEW, "look", Checks.NO_ELEMENT, look, 0, 6);
        Checks.refused(Checks.NEW, "look", Checks.NO_ELEMENT, look, 0, -1);
    }

    private static void lookAtAll() {
        Checks.of(23, "NEXT, HOURS, HOUSES, DUTY, SHUT, whether it has a GATE (of the CITY all 0)");
        LordsRoad x = Checks.busy();
        int[][] due = {{0, 0, 0, 0, 0, 0}, {0, 6, 1, 30, 50, 1}, {1, 5, 1, 20, 60, 0}, {2, 4, 2, 10, 100, 0},
            {1, 7, 3, 5, 40, 0}};
        for (int station = 0; station < due.length; station++) {
            for (int what = 0; what < 6; what++) {
                Checks.due("look(" + station + ", " + what + ")", Checks.look(x, station, what), due[station][what]);
            }
        }
        LordsRoad y = Checks.full();
        for (int station = 1; station < 12; station++) {
            int k = station - 1;
            int[] want = {k, 2, 1 + k % 3, 20 * k, 60, k % 4 == 2 ? 1 : 0};
            for (int what = 0; what < 6; what++) {
                Checks.due("look(" + station + ", " + what + ")", Checks.look(y, station, what), want[what]);
            }
        }
    }

    private static void countRefused() {
        Checks.of(24, "NONE for another what");
        Checks.Call count = (x, a) -> x.count(a[0]);
        Checks.refusedBeside(Checks.BUSY, "count", NONE, count, new int[] {0}, new int[][] {{0, 7}});
        Checks.refusedBeside(Checks.NEW, "count", NONE, count, new int[] {0}, new int[][] {{0, 7}});
    }

    private static void countAtAll() {
        Checks.of(24, "STATIONS, LORDS, THE YEAR, march, news, hold, pay, KNOTS");
        int[] busy = {5, 3, 1701, 10, 5, 2, 4, 20};
        int[] full = {12, 6, 0, 8, 24, 3, 2, 0};
        for (int what = 0; what < busy.length; what++) {
            Checks.due("count(" + what + ") of the busy one", Checks.busy().count(what), busy[what]);
            Checks.due("count(" + what + ") of the full one", Checks.full().count(what), full[what]);
        }
        Checks.of(24, "KNOTS of the EDICTS");
        String[] texts = {"attend 1;", "attend rank;", "attend -1;", "attend not 1;", "attend 1+1;", "attend 1 and 1;",
            "attend (1);", "yield 1,1;", "yield 1,1,1;", "march 1;", "march 1;news 1;hold 1;pay 1;room 1;",
            "fine late%late;", "attend (not (-(1)))or(1<=2);", ""};
        int[] knots = {1, 1, 2, 2, 3, 3, 1, 2, 3, 0, 1, 3, 7, 0};
        for (int k = 0; k < texts.length; k++) {
            LordsRoad x = new LordsRoad();
            Checks.tell(x, texts[k]);
            Checks.due("KNOTS of " + texts[k], x.count(7), knots[k]);
            Checks.tell(x, "room 1+1+1+late;");
            Checks.due("behind a FAULT, KNOTS of " + texts[k], x.count(7), knots[k]);
        }
    }
}
