/** The boundaries of promises 5 to 11, and of parts 1 and 2 of the document's terms. */
public final class RoadAndLordsTest {
    private static final int NONE = Checks.NONE;
    private static final int NO = Checks.NO;
    private static final int YES = Checks.YES;
    private static final Checks.Call STATION =
            (x, a) -> x.station(a[0], a[1], a[2], a[3], a[4], a[5] != 0);
    private static final Checks.Call HEIGHT = (x, a) -> x.height(a[0], a[1], a[2], a[3]) ? YES : NO;
    private static final Checks.Call LORD = (x, a) -> x.lord(a[0], a[1], a[2], a[3], a[4], a[5]);
    private static final Checks.Call PAPERS = (x, a) -> x.papers(a[0], a[1], a[2]) ? YES : NO;
    private static final Checks.Call WINDOW = (x, a) -> x.window(a[0], a[1], a[2], a[3]) ? YES : NO;

    public static void main(String[] args) {
        year();
        stationsRefused();
        stationsTaken();
        twelveStations();
        hoursAndMarch();
        houses();
        duty();
        heightsRefused();
        heightsTaken();
        shut();
        betweenStations();
        lordsRefused();
        lordsTaken();
        sixLords();
        papersRefused();
        papersTaken();
        windowsRefused();
        windowsTaken();
        dueDay();
        Checks.end();
    }

    private static void year() {
        Checks.of(5, "false: no such one");
        Checks.Call call = (x, a) -> x.year(a[0]) ? YES : NO;
        Checks.refusedBeside(Checks.BUSY, "year", NO, call, new int[] {0}, new int[][] {{0, 9999}});
        Checks.refusedBeside(Checks.NEW, "year", NO, call, new int[] {0}, new int[][] {{0, 9999}});
        Checks.of(5, "THE YEAR becomes y");
        LordsRoad x = Checks.chain(1);
        Checks.plainLord(x, 1, 0, 1);
        Checks.tell(x, "room year;");
        for (int y : new int[] {9999, 0, 1, 9998}) {
            Checks.due("year(" + y + ")", x.year(y), true);
            Checks.due("count(2)", x.count(2), y);
            Checks.due("the NAME year", x.wants(0, 2, 0), y);
        }
        x.edicts(0);
        Checks.due("new EDICTS leave it", x.count(2), 9998);
    }

    private static void stationsRefused() {
        Checks.of(6, "NONE: it can't be");
        // the station would be number 5
        int[] good = {4, 9, 2, 500, 50, 1};
        int[][] bounds = {{0, 4}, {1, 20}, {1, 3}, {0, 999}, {1, 100}};
        for (int k = 0; k < bounds.length; k++) {
            for (int bad : new int[] {bounds[k][0] - 1, bounds[k][1] + 1, Integer.MIN_VALUE, Integer.MAX_VALUE}) {
                int[] a = good.clone();
                a[k] = bad;
                Checks.refused(Checks.BUSY, "station", NONE, STATION, a);
            }
        }
        Checks.refused(Checks.NEW, "station", NONE, STATION, 1, 9, 2, 500, 50, 0);
        Checks.refused(Checks.NEW, "station", NONE, STATION, -1, 9, 2, 500, 50, 0);
    }

    private static void stationsTaken() {
        Checks.of(6, "a STATION: its number");
        int[] good = {4, 9, 2, 500, 50, 1};
        int[][] bounds = {{0, 4}, {1, 20}, {1, 3}, {0, 999}, {1, 100}, {0, 1}};
        Checks.takenAt(Checks.BUSY, "station", 5, STATION, good, bounds);
        for (int k = 0; k < bounds.length; k++) {
            for (int value : bounds[k]) {
                int[] a = good.clone();
                a[k] = value;
                LordsRoad x = Checks.busy();
                STATION.of(x, a);
                Checks.due("count(0)", x.count(0), 6);
                for (int what = 0; what < a.length; what++) {
                    Checks.due("look(5, " + what + ")", Checks.look(x, 5, what), a[what]);
                }
            }
        }
        Checks.of(6, "each other one has a WAY to a lesser one");
        LordsRoad x = new LordsRoad();
        Checks.due("the first, to the city", x.station(0, 1, 1, 0, 1, false), 1);
        Checks.due("to itself", x.station(2, 1, 1, 0, 1, false), NONE);
        Checks.due("the second, to the first", x.station(1, 1, 1, 0, 1, false), 2);
        Checks.due("the third, to the city, too", x.station(0, 1, 1, 0, 1, false), 3);
    }

    private static void twelveStations() {
        Checks.of(6, "or there are 12");
        LordsRoad x = new LordsRoad();
        for (int k = 1; k <= 11; k++) {
            Checks.due("station " + k, x.station(k - 1, 20, 3, 999, 100, true), k);
            Checks.due("count(0)", x.count(0), k + 1);
        }
        Checks.due("a thirteenth", x.station(0, 1, 1, 0, 1, false), NONE);
        Checks.due("a thirteenth behind the last", x.station(11, 1, 1, 0, 1, false), NONE);
        Checks.due("twelve yet", x.count(0), 12);
        Checks.due("look(11, 0)", Checks.look(x, 11, 0), 10);
        Checks.due("look(12, 0)", Checks.look(x, 12, 0), Checks.BAD_INDEX);
        Checks.due("the whole road", x.between(11, 0), 220);
        Checks.refused(Checks.FULL, "station", NONE, STATION, 0, 1, 1, 0, 1, 0);
    }

    /** Arrival of a lord from the last of the stations so many hours apart, told so long a march. */
    private static int arrival(int march, int... hours) {
        LordsRoad x = Checks.chain(hours);
        Checks.plainLord(x, hours.length, 0, 1);
        Checks.tell(x, "march " + march + ";");
        x.set(0, 0);
        return x.end(0, 0);
    }

    private static void hoursAndMarch() {
        Checks.of(6, "HOURS 1 .. 20, against march");
        Checks.due("1 hour, march 1", arrival(1, 1), 0);
        Checks.due("2 hours, march 1", arrival(1, 2), NONE);
        Checks.due("20 hours, march 20", arrival(20, 20), 0);
        Checks.due("20 hours, march 19", arrival(19, 20), NONE);
        Checks.due("20 hours, march 24", arrival(24, 20), 0);
        Checks.due("4 + 20 hours, march 24", arrival(24, 4, 20), 0);
        Checks.due("4 + 20 hours, march 23", arrival(23, 4, 20), 1);
        Checks.due("5 + 20 hours, march 24", arrival(24, 5, 20), 1);
        Checks.due("20 + 4 hours, march 20", arrival(20, 20, 4), 1);
        Checks.due("eleven times 1 hour, march 11", arrival(11, 1, 1, 1, 1, 1, 1, 1, 1, 1, 1, 1), 0);
        Checks.due("eleven times 1 hour, march 10", arrival(10, 1, 1, 1, 1, 1, 1, 1, 1, 1, 1, 1), 1);
        Checks.due("eleven times 1 hour, march 1", arrival(1, 1, 1, 1, 1, 1, 1, 1, 1, 1, 1, 1), 10);
        Checks.due("eleven times 20 hours, march 24", arrival(24, 20, 20, 20, 20, 20, 20, 20, 20, 20, 20, 20), 10);
        Checks.due("eleven times 2 hours, march 24", arrival(24, 2, 2, 2, 2, 2, 2, 2, 2, 2, 2, 2), 0);
    }

    private static void houses() {
        Checks.of(6, "HOUSES 1 .. 3");
        for (int houses = 1; houses <= 3; houses++) {
            LordsRoad x = new LordsRoad();
            x.station(0, 8, houses, 999, 100, false);
            x.station(1, 8, 3, 999, 100, false);
            for (int k = 0; k < 5; k++) {
                Checks.plainLord(x, 2, 0, 1);
                x.set(k, 0);
            }
            for (int k = 0; k < 5; k++) {
                boolean lodges = k < houses;
                Checks.due("night of lord " + k + ", HOUSES " + houses, x.night(k, 0, 0), lodges ? 1 : 2);
                Checks.due("YIELDS of lord " + k + ", HOUSES " + houses, x.night(k, 0, 2), lodges ? 0 : 1);
            }
        }
    }

    private static void duty() {
        Checks.of(6, "DUTY 0 .. 999");
        int[][] due = {{0, 0, 0, 0}, {0, 1, 1, 0}, {1, 1, 0, 1}, {1, 2, 1, 1}, {999, 999, 0, 999},
            {999, 1000, 1, 999}, {999, 998, 0, 998}, {999, 9999, 9000, 999}};
        for (int[] one : due) {
            LordsRoad x = new LordsRoad();
            x.station(0, 8, 1, one[0], 100, false);
            Checks.plainLord(x, 1, 0, 1);
            Checks.tell(x, "bearers " + one[1] + ";");
            x.set(0, 0);
            String what = "DUTY " + one[0] + ", BEARERS " + one[1];
            Checks.due("hired, " + what, x.end(0, 5), one[2]);
            Checks.due("given in all, " + what, x.given(1, 0), one[3]);
            Checks.due("given on one DAY, " + what, x.given(1, 1), one[3]);
        }
    }

    private static void heightsRefused() {
        Checks.of(7, "false: no such ones");
        int[] good = {2, 1, 9, 99};
        Checks.refusedBeside(Checks.BUSY, "height", NO, HEIGHT, good, new int[][] {{1, 4}, {0, 9}, {1, 99}, {0, 99}});
        Checks.of(7, "the first not behind the second");
        Checks.refused(Checks.BUSY, "height", NO, HEIGHT, 2, 1, 0, 99);
        Checks.refused(Checks.BUSY, "height", NO, HEIGHT, 2, 99, 0, 99);
        Checks.refused(Checks.BUSY, "height", NO, HEIGHT, 2, 99, 98, 99);
        Checks.refused(Checks.BUSY, "height", NO, HEIGHT, 2, 100, 100, 99);
        Checks.refused(Checks.BUSY, "height", NO, HEIGHT, 2, -1, -1, 99);
        Checks.refused(Checks.NEW, "height", NO, HEIGHT, 0, 0, 0, 0);
        Checks.refused(Checks.NEW, "height", NO, HEIGHT, 1, 0, 0, 0);
        Checks.refused(Checks.FULL, "height", NO, HEIGHT, 12, 0, 99, 99);
        Checks.due("height(11, ..)", Checks.full().height(11, 0, 99, 99), true);
    }

    /** On which days of 0 .. 20 a lord who sets out then can't go that day, counted and as a sum. */
    private static void shutDays(LordsRoad x, int days, int sum) {
        int counted = 0;
        int added = 0;
        for (int day = 0; day <= 20; day++) {
            x.set(0, day);
            if (x.end(0, 0) != day) {
                counted++;
                added += day;
            }
        }
        Checks.due("days shut", counted, days);
        Checks.due("their sum", added, sum);
    }

    private static void heightsTaken() {
        Checks.of(7, "from one DAY to another one, both with it");
        LordsRoad x = Checks.chain(8);
        Checks.plainLord(x, 1, 0, 1);
        shutDays(x, 0, 0);
        Checks.due("day 0 alone", x.height(1, 0, 0, 50), true);
        shutDays(x, 1, 0);
        Checks.due("5 to 6", x.height(1, 5, 6, 50), true);
        shutDays(x, 3, 11);
        Checks.due("open on 0", x.height(1, 0, 0, 49), true);
        shutDays(x, 2, 11);
        Checks.due("day 9 alone", x.height(1, 9, 9, 99), true);
        shutDays(x, 3, 20);
        Checks.due("all days", x.height(1, 0, 99, 99), true);
        Checks.due("never goes", x.end(0, 0), NONE);
        Checks.due("day 99 alone", x.height(1, 99, 99, 0), true);
        Checks.due("goes on 99", x.end(0, 0), 99);
        Checks.due("day 98, too", x.height(1, 98, 99, 0), true);
        Checks.due("goes on 98", x.end(0, 0), 98);
        LordsRoad y = Checks.chain(8);
        Checks.plainLord(y, 1, 0, 1);
        y.set(0, 60);
        Checks.due("a station's own river", y.station(0, 8, 1, 0, 50, false), 2);
        Checks.due("of the other one", y.height(2, 0, 99, 99), true);
        Checks.due("goes as ahead", y.end(0, 0), 60);
        Checks.of(7, "HEIGHT 0 at first");
        y.station(0, 8, 1, 0, 1, false);
        Checks.plainLord(y, 3, 0, 1);
        for (int day = 0; day <= 60; day += 20) {
            y.set(1, day);
            Checks.due("SHUT 1 is open", y.end(1, 0), day);
        }
    }

    private static void shut() {
        Checks.of(7, "shut on a DAY when its river is as high or higher (100: never)");
        int[] shuts = {1, 2, 50, 98, 99, 100};
        for (int shut : shuts) {
            for (int height : new int[] {0, 1, 2, 49, 50, 51, 97, 98, 99}) {
                LordsRoad x = new LordsRoad();
                x.station(0, 8, 1, 0, shut, false);
                Checks.plainLord(x, 1, 0, 1);
                x.set(0, 0);
                Checks.due("height " + height, x.height(1, 0, 0, height), true);
                Checks.due("SHUT " + shut + ", HEIGHT " + height, x.end(0, 0), height >= shut ? 1 : 0);
            }
        }
    }

    private static void betweenStations() {
        Checks.of(8, "NONE: no such STATIONS");
        Checks.Call call = (x, a) -> x.between(a[0], a[1]);
        Checks.refusedBeside(Checks.BUSY, "between", NONE, call, new int[] {3, 4}, new int[][] {{0, 4}, {0, 4}});
        Checks.refusedBeside(Checks.FULL, "between", NONE, call, new int[] {3, 4}, new int[][] {{0, 11}, {0, 11}});
        Checks.of(8, "BETWEEN: along the WAYS, each toward NEXT or back");
        LordsRoad x = new LordsRoad();
        int[] next = {0, 0, 1, 1, 0, 4, 3};
        int[] hours = {0, 1, 20, 7, 5, 11, 2};
        for (int k = 1; k < next.length; k++) {
            x.station(next[k], hours[k], 1, 0, 1, true);
        }
        int[][] due = {
            {0, 1, 21, 8, 5, 16, 10}, {1, 0, 20, 7, 6, 17, 9}, {21, 20, 0, 27, 26, 37, 29}, {8, 7, 27, 0, 13, 24, 2},
            {5, 6, 26, 13, 0, 11, 15}, {16, 17, 37, 24, 11, 0, 26}, {10, 9, 29, 2, 15, 26, 0}};
        for (int a = 0; a < due.length; a++) {
            for (int b = 0; b < due.length; b++) {
                Checks.due("between(" + a + ", " + b + ")", x.between(a, b), due[a][b]);
            }
        }
        x.height(1, 0, 99, 99);
        Checks.due("shut or not", x.between(2, 0), 21);
    }

    private static void lordsRefused() {
        Checks.of(9, "NONE: it can't be");
        int[] good = {3, 4, 500, 500, 50, 50};
        int[][] bounds = {{1, 4}, {0, 9}, {0, 999}, {1, 999}, {0, 99}, {0, 99}};
        Checks.refusedBeside(Checks.BUSY, "lord", NONE, LORD, good, bounds);
        Checks.refused(Checks.NEW, "lord", NONE, LORD, 0, 0, 0, 1, 0, 0);
        Checks.refused(Checks.NEW, "lord", NONE, LORD, 1, 0, 0, 1, 0, 0);
    }

    private static void lordsTaken() {
        Checks.of(9, "a LORD: the number");
        int[] good = {3, 4, 500, 500, 50, 50};
        int[][] bounds = {{1, 4}, {0, 9}, {0, 999}, {1, 999}, {0, 99}, {0, 99}};
        Checks.takenAt(Checks.BUSY, "lord", 3, LORD, good, bounds);
        String[] names = {"hours", "rank", "worth", "men", "guns", "women"};
        int[] hoursOf = {0, 1, 0, 0, 13};
        for (int k = 0; k < bounds.length; k++) {
            for (int value : bounds[k]) {
                int[] a = good.clone();
                a[k] = value;
                LordsRoad x = Checks.chain(1, 3, 5, 4);
                Checks.due("lord", LORD.of(x, a), 0);
                Checks.due("count(1)", x.count(1), 1);
                Checks.tell(x, "room " + names[k] + ";");
                Checks.due(names[k], x.wants(0, 2, 0), k == 0 ? hoursOf[value] : value);
                Checks.due("at HOME", x.night(0, 0, 0), a[0]);
            }
        }
        Checks.of(9, "PAPERS 0, 0, a WINDOW 0 .. 10, DUE 30, no DAY at first");
        LordsRoad x = new LordsRoad();
        x.station(0, 1, 1, 0, 100, true);
        x.station(1, 1, 1, 0, 100, false);
        x.lord(2, 0, 0, 1, 0, 0);
        x.lord(2, 0, 0, 1, 1, 0);
        x.lord(2, 0, 0, 1, 0, 1);
        for (int k = 0; k < 3; k++) {
            Checks.due("no DAY", x.row(1 + k), NONE);
            Checks.due("no RUN", x.end(k, 0), NONE);
            x.set(k, 0);
            Checks.due("held without PAPERS", x.night(k, 0, 3), k == 0 ? 0 : 3);
            x.set(k, NONE);
        }
        Checks.tell(x, "attend house=1;");
        x.plan();
        Checks.due("eleven DAYS", x.row(0), 11);
        Checks.due("DAY 0 is one", x.row(2), 0);
        Checks.tell(x, "attend house=1;fine 200-late;");
        x.height(1, 0, 99, 0);
        x.plan();
        Checks.due("like ones, the first", x.row(2), 0);
        x.set(1, 29);
        Checks.due("held till 33, due on 30", x.end(1, 1), 3);
        x.set(1, 26);
        Checks.due("arrives on 30", x.end(1, 0), 30);
        Checks.due("is not late", x.end(1, 1), 0);
        x.set(1, 27);
        Checks.due("on 31 he is", x.end(1, 1), 1);
    }

    private static void sixLords() {
        Checks.of(9, "or there are 6");
        LordsRoad x = Checks.chain(1);
        for (int k = 0; k < 6; k++) {
            Checks.due("count(1)", x.count(1), k);
            Checks.due("lord " + k, Checks.plainLord(x, 1, k, 1), k);
        }
        Checks.due("a seventh", Checks.plainLord(x, 1, 0, 1), NONE);
        Checks.due("six yet", x.count(1), 6);
        Checks.tell(x, "room house;");
        Checks.due("house: its number", x.wants(5, 2, 0), 5);
        Checks.due("no seventh", x.wants(6, 2, 0), NONE);
        Checks.refused(Checks.FULL, "lord", NONE, LORD, 1, 0, 0, 1, 0, 0);
    }

    private static void papersRefused() {
        Checks.of(10, "false: no such ones");
        Checks.refusedBeside(Checks.BUSY, "papers", NO, PAPERS, new int[] {1, 9, 9},
                new int[][] {{0, 2}, {0, 99}, {0, 99}});
        Checks.refused(Checks.FULL, "papers", NO, PAPERS, 6, 9, 9);
        Checks.refused(Checks.NEW, "papers", NO, PAPERS, 0, 0, 0);
    }

    private static void papersTaken() {
        Checks.of(10, "PAPERS for so many GUNS, WOMEN");
        int[][] due = {{0, 0, 0, 0, 0}, {1, 0, 0, 0, 3}, {0, 1, 0, 0, 3}, {1, 0, 1, 0, 0}, {0, 1, 0, 1, 0},
            {1, 1, 1, 0, 3}, {1, 1, 0, 1, 3}, {1, 1, 1, 1, 0}, {99, 99, 99, 99, 0}, {99, 99, 98, 99, 3},
            {99, 99, 99, 98, 3}, {5, 0, 0, 99, 3}, {0, 5, 99, 0, 3}, {5, 0, 99, 0, 0}, {0, 0, 99, 99, 0}};
        for (int[] one : due) {
            LordsRoad x = new LordsRoad();
            x.station(0, 4, 1, 0, 100, true);
            x.station(1, 4, 1, 0, 100, false);
            x.lord(2, 0, 0, 1, one[0], one[1]);
            x.set(0, 0);
            Checks.due("papers", x.papers(0, one[2], one[3]), true);
            Checks.due("held, " + one[0] + " GUNS, " + one[1] + " WOMEN, PAPERS " + one[2] + ", " + one[3],
                    x.night(0, 0, 3), one[4]);
        }
    }

    private static void windowsRefused() {
        Checks.of(11, "false: no such ones (FROM not behind TO)");
        Checks.refusedBeside(Checks.BUSY, "window", NO, WINDOW, new int[] {1, 0, 60, 50},
                new int[][] {{0, 2}, {0, 60}, {0, 60}, {0, 99}});
        Checks.refused(Checks.BUSY, "window", NO, WINDOW, 1, 1, 0, 50);
        Checks.refused(Checks.BUSY, "window", NO, WINDOW, 1, 60, 59, 50);
        Checks.refused(Checks.BUSY, "window", NO, WINDOW, 1, 60, 0, 50);
        Checks.refused(Checks.BUSY, "window", NO, WINDOW, 1, 61, 61, 50);
        Checks.refused(Checks.BUSY, "window", NO, WINDOW, 1, -1, -1, 50);
        Checks.refused(Checks.FULL, "window", NO, WINDOW, 6, 0, 0, 0);
        Checks.refused(Checks.NEW, "window", NO, WINDOW, 0, 0, 0, 0);
    }

    private static void windowsTaken() {
        Checks.of(11, "a WINDOW of DAYS FROM .. TO (0 .. 60)");
        int[][] windows = {{0, 0}, {0, 60}, {60, 60}, {59, 60}, {0, 1}, {17, 44}};
        for (int[] one : windows) {
            LordsRoad x = Checks.chain(8);
            Checks.plainLord(x, 1, 0, 1);
            Checks.due("window", x.window(0, one[0], one[1], 0), true);
            Checks.due("no DAY of it is set", x.row(1), NONE);
            x.plan();
            Checks.due("LOOKS of " + one[0] + " .. " + one[1], x.row(0), one[1] - one[0] + 1);
            Checks.due("the first DAY", x.row(1), one[0]);
            Checks.tell(x, "fine 100-late;");
            x.plan();
            Checks.due("the last DAY", x.row(1), one[1]);
        }
    }

    private static void dueDay() {
        Checks.of(11, "a DAY DUE 0 .. 99");
        int[][] late = {{0, 10}, {1, 9}, {9, 1}, {10, 0}, {11, 0}, {99, 0}};
        for (int[] one : late) {
            LordsRoad x = Checks.chain(8);
            Checks.plainLord(x, 1, 0, 1);
            x.set(0, 10);
            Checks.due("window", x.window(0, 0, 0, one[0]), true);
            Checks.due("LATE on 10, DUE " + one[0], x.end(0, 1), one[1]);
            Checks.due("the DAY set stays", x.row(1), 10);
        }
    }
}
