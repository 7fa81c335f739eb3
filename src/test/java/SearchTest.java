/** The boundaries of promises 19 to 21, and of the searches of part 5 of the document's terms. */
public final class SearchTest {
    private static final int NONE = Checks.NONE;

    public static void main(String[] args) {
        fewestYields();
        yieldsAheadOfCost();
        leastCost();
        firstByDays();
        whoAttends();
        daysOfTheWindow();
        noLords();
        twoThousandLooks();
        planSpent();
        farTooManyRows();
        anewRefused();
        anewAheadOfTheDay();
        anewOutOfTheWindow();
        anewWithoutADay();
        anewByTheLastDays();
        anewMovesTheFewest();
        anewByYieldsCostDays();
        anewWhoAttends();
        anewSpent();
        anewNoSuchRow();
        rowRefused();
        rowOfTheLatest();
        manyCalls();
        Checks.end();
    }

    /** Days of the ROW at hand, of lord 0 first. */
    private static void rowIs(LordsRoad x, int... days) {
        for (int k = 0; k < days.length; k++) {
            Checks.due("row(" + (1 + k) + ")", x.row(1 + k), days[k]);
        }
    }

    private static void judgedAs(LordsRoad x, int yields, int cost) {
        Checks.due("judge(0)", x.judge(0), yields);
        Checks.due("judge(1)", x.judge(1), cost);
    }

    /** Two lords of ranks 0, 1 at 3, who come as far as 1 in a DAY, where one lodges, and from 2, too. */
    private static LordsRoad two(int from0, int to0, int from1, int to1) {
        LordsRoad x = Checks.chain(4, 4, 4);
        Checks.plainLord(x, 3, 0, 1);
        Checks.plainLord(x, 3, 1, 1);
        x.window(0, from0, to0, 0);
        x.window(1, from1, to1, 0);
        return x;
    }

    private static void fewestYields() {
        Checks.of(19, "the one with the fewest YIELDS");
        LordsRoad x = two(0, 0, 0, 0);
        Checks.due("plan of one ROW", x.plan(), 1);
        Checks.due("row(0)", x.row(0), 1);
        rowIs(x, 0, 0);
        judgedAs(x, 1, 20);
        x.window(1, 0, 1, 0);
        Checks.due("plan of two ROWS", x.plan(), 0);
        Checks.due("row(0)", x.row(0), 2);
        rowIs(x, 0, 1);
        judgedAs(x, 0, 20);
        LordsRoad y = two(7, 7, 7, 7);
        Checks.plainLord(y, 3, 2, 1);
        y.window(2, 7, 7, 0);
        // 1 is taken by the first, 2 by the second; the third stays, and finds 1 free a DAY later
        Checks.due("three on one DAY", y.plan(), 2);
        rowIs(y, 7, 7, 7);
    }

    private static void yieldsAheadOfCost() {
        Checks.of(19, "fewest YIELDS first, of those the least COST");
        LordsRoad x = two(0, 0, 0, 1);
        Checks.tell(x, "fine late*100;");
        Checks.due("plan", x.plan(), 0);
        rowIs(x, 0, 1);
        judgedAs(x, 0, 320);
        x.set(1, 0);
        judgedAs(x, 1, 220);
        x.window(1, 0, 0, 0);
        Checks.due("the cheaper one alone", x.plan(), 1);
        judgedAs(x, 1, 220);
    }

    private static void leastCost() {
        Checks.of(19, "of those the least COST");
        LordsRoad x = Checks.chain(8);
        Checks.plainLord(x, 1, 0, 1);
        x.window(0, 3, 9, 0);
        String[] fines = {"fine late;", "fine 9-late;", "fine (late-5)*(late-5);", "fine (late-6)*(late-7);", "fine late<>8;",
            "fine 0;", "fine 9999;", "fine late<6;", "fine late/4;", "fine 10000-late;", "fine 10005-late;"};
        int[] days = {3, 9, 5, 6, 8, 3, 3, 6, 3, 9, 9};
        int[] costs = {3, 0, 0, 0, 0, 0, 9999, 0, 0, 9991, 9996};
        for (int k = 0; k < fines.length; k++) {
            Checks.tell(x, fines[k]);
            Checks.due("plan by " + fines[k], x.plan(), 0);
            Checks.due("LOOKS", x.row(0), 7);
            Checks.due("row(1) by " + fines[k], x.row(1), days[k]);
            Checks.due("judge(1) by " + fines[k], x.judge(1), costs[k]);
        }
    }

    private static void firstByDays() {
        Checks.of(19, "of those the first by DAYS (of LORDS by numbers)");
        LordsRoad x = two(0, 2, 0, 2);
        Checks.due("plan", x.plan(), 0);
        Checks.due("row(0)", x.row(0), 9);
        rowIs(x, 0, 1);
        Checks.tell(x, "yield -rank;");
        // lord 1 is ahead: who sets out a DAY behind lord 0 finds the HOUSE taken
        Checks.due("plan", x.plan(), 0);
        rowIs(x, 0, 2);
        x.window(1, 0, 1, 0);
        Checks.due("plan", x.plan(), 0);
        Checks.due("row(0)", x.row(0), 6);
        rowIs(x, 1, 0);
        LordsRoad apart = new LordsRoad();
        for (int k = 0; k < 4; k++) {
            apart.station(0, 8, 1, 999, 50, false);
            Checks.plainLord(apart, k + 1, 3 - k, 1);
            apart.window(k, 4 - k, 6 - k, 99);
        }
        Checks.due("plan of like ROWS", apart.plan(), 0);
        Checks.due("row(0)", apart.row(0), 81);
        rowIs(apart, 4, 3, 2, 1, NONE, NONE);
    }

    private static void whoAttends() {
        Checks.of(19, "each LORD who ATTENDS has a DAY of its WINDOW (the others none)");
        LordsRoad x = two(0, 0, 0, 60);
        x.set(1, 7);
        Checks.tell(x, "attend house=0;");
        Checks.due("plan", x.plan(), 0);
        Checks.due("row(0)", x.row(0), 1);
        rowIs(x, 0, NONE);
        Checks.tell(x, "attend house=1;");
        Checks.due("plan", x.plan(), 0);
        Checks.due("row(0)", x.row(0), 61);
        rowIs(x, NONE, 0);
        Checks.tell(x, "attend 0;");
        Checks.due("plan of none", x.plan(), 0);
        Checks.due("one empty ROW", x.row(0), 1);
        rowIs(x, NONE, NONE);
        Checks.due("none arrives", x.judge(2), 0);
        x.window(0, 0, 60, 0);
        Checks.due("windows of those who don't are no LOOKS", x.plan(), 0);
        Checks.due("one empty ROW", x.row(0), 1);
    }

    private static void daysOfTheWindow() {
        Checks.of(19, "a DAY of its WINDOW, whatever the ROW at hand was");
        LordsRoad x = two(60, 60, 59, 60);
        x.set(0, 0);
        x.set(1, 1);
        Checks.due("plan", x.plan(), 1);
        Checks.due("row(0)", x.row(0), 2);
        rowIs(x, 60, 59);
        Checks.due("again", x.plan(), 1);
        rowIs(x, 60, 59);
        Checks.due("its YIELDS", x.judge(0), 1);
    }

    private static void noLords() {
        Checks.of(19, "without LORDS");
        LordsRoad x = new LordsRoad();
        Checks.due("plan", x.plan(), 0);
        Checks.due("one empty ROW", x.row(0), 1);
        Checks.due("anew", x.anew(0), 0);
        Checks.due("one empty ROW", x.row(0), 1);
        Checks.due("anew from 99", x.anew(99), 0);
    }

    /** Lords of windows of so many DAYS each, from 0 on, each with a way of his own. */
    private static LordsRoad windows(int... sizes) {
        LordsRoad x = new LordsRoad();
        for (int k = 0; k < sizes.length; k++) {
            x.station(0, 1, 1, 999, 50, false);
            Checks.plainLord(x, k + 1, k, 1);
            x.window(k, 0, sizes[k] - 1, 99);
        }
        return x;
    }

    private static void twoThousandLooks() {
        Checks.of(21, "LOOKS: ROWS gone through; if there are more than 2000, it is SPENT");
        int[][] sizes = {{1}, {61}, {2, 3}, {50, 40}, {40, 50}, {2, 10, 10, 10}, {5, 5, 5, 4, 2, 2}, {1, 1, 1, 1, 40, 50},
            {3, 23, 29}, {29, 23, 3}, {33, 61}, {61, 32}, {44, 45}, {45, 45}, {54, 37}, {2, 2, 55, 9}};
        for (int[] one : sizes) {
            int rows = 1;
            String text = "";
            for (int size : one) {
                rows *= size;
                text += size + " ";
            }
            LordsRoad x = windows(one);
            x.set(0, 9);
            boolean spent = rows > 2000;
            Checks.due("plan of " + text, x.plan(), spent ? NONE : 0);
            Checks.due("row(0) of " + text, x.row(0), spent ? 2000 : rows);
            Checks.due("row(1) of " + text, x.row(1), spent ? 9 : 0);
        }
    }

    private static void planSpent() {
        Checks.of(19, "NONE: it is SPENT, and nothing happens");
        LordsRoad x = windows(3, 23, 29);
        x.set(0, 60);
        x.set(2, 17);
        int cost = x.judge(1);
        Checks.due("2001 ROWS", x.plan(), NONE);
        rowIs(x, 60, NONE, 17);
        Checks.due("COSTS as ahead", x.judge(1), cost);
        Checks.due("both arrive", x.judge(2), 2);
        Checks.due("on 60", x.judge(3), 60);
        x.window(0, 0, 1, 99);
        Checks.due("two thirds of it", x.plan(), 0);
        Checks.due("row(0)", x.row(0), 1334);
        rowIs(x, 0, 0, 0);
    }

    private static void farTooManyRows() {
        Checks.of(21, "2000 if SPENT, however many there are");
        int[][] sizes = {{61, 61, 61, 61, 61, 61}, {32, 32, 32, 32, 32, 32}, {48, 48, 48, 48, 48, 48},
            {32, 32, 32, 32, 32, 61}, {16, 32, 32, 32, 32, 32}, {61, 61, 61, 61, 61, 1}, {60, 60, 60, 60, 60, 60}};
        for (int[] one : sizes) {
            LordsRoad x = windows(one);
            Checks.due("plan", x.plan(), NONE);
            Checks.due("row(0)", x.row(0), 2000);
            Checks.due("anew", x.anew(0), NONE);
            Checks.due("row(0)", x.row(0), 2000);
            rowIs(x, NONE, NONE, NONE, NONE, NONE, NONE);
        }
    }

    private static void anewRefused() {
        Checks.of(20, "NONE: no such DAY");
        Checks.Call anew = (x, a) -> x.anew(a[0]);
        Checks.refusedBeside(Checks.BUSY, "anew", NONE, anew, new int[] {0}, new int[][] {{0, 99}});
        Checks.refusedBeside(Checks.FULL, "anew", NONE, anew, new int[] {0}, new int[][] {{0, 99}});
        Checks.refusedBeside(Checks.NEW, "anew", NONE, anew, new int[] {0}, new int[][] {{0, 99}});
    }

    /** ANEW from a DAY: its answer, the LOOKS and the DAY that the one lord has then. */
    private static void anewIs(LordsRoad x, int set, int day, int answer, int looks, int has) {
        x.set(0, set);
        String what = "from " + day + ", set " + set;
        Checks.due("anew " + what, x.anew(day), answer);
        Checks.due("row(0) " + what, x.row(0), looks);
        Checks.due("row(1) " + what, x.row(1), has);
    }

    private static void anewAheadOfTheDay() {
        Checks.of(20, "a DAY of its WINDOW that is d or later, but that of the ROW at hand if this is ahead of d");
        LordsRoad x = Checks.chain(8);
        Checks.plainLord(x, 1, 0, 1);
        x.window(0, 2, 5, 30);
        anewIs(x, 3, 0, 0, 4, 3);
        anewIs(x, 3, 1, 0, 4, 3);
        anewIs(x, 3, 2, 0, 4, 3);
        anewIs(x, 3, 3, 0, 3, 3);
        anewIs(x, 3, 4, 0, 1, 3);
        anewIs(x, 3, 5, 0, 1, 3);
        anewIs(x, 3, 6, 0, 1, 3);
        anewIs(x, 5, 5, 0, 1, 5);
        anewIs(x, 2, 2, 0, 4, 2);
        anewIs(x, 4, 4, 0, 2, 4);
    }

    private static void anewOutOfTheWindow() {
        Checks.of(20, "out of its WINDOW he has to move, unless his DAY is ahead of d");
        LordsRoad x = Checks.chain(8);
        Checks.plainLord(x, 1, 0, 1);
        x.window(0, 2, 5, 30);
        anewIs(x, 6, 0, 1, 4, 2);
        anewIs(x, 6, 2, 1, 4, 2);
        anewIs(x, 6, 3, 1, 3, 3);
        anewIs(x, 6, 5, 1, 1, 5);
        anewIs(x, 6, 6, NONE, 0, 6);
        anewIs(x, 6, 7, 0, 1, 6);
        anewIs(x, 1, 0, 1, 4, 2);
        anewIs(x, 1, 1, 1, 4, 2);
        anewIs(x, 1, 2, 0, 1, 1);
        anewIs(x, 0, 0, 1, 4, 2);
        anewIs(x, 0, 1, 0, 1, 0);
    }

    private static void anewWithoutADay() {
        Checks.of(20, "another one than in the ROW at hand (none, too)");
        LordsRoad x = Checks.chain(8);
        Checks.plainLord(x, 1, 0, 1);
        x.window(0, 2, 5, 30);
        anewIs(x, NONE, 0, 1, 4, 2);
        anewIs(x, NONE, 4, 1, 2, 4);
        anewIs(x, NONE, 5, 1, 1, 5);
        anewIs(x, NONE, 6, NONE, 0, NONE);
        Checks.due("no RUN yet", x.end(0, 0), NONE);
    }

    private static void anewByTheLastDays() {
        Checks.of(20, "from the last DAYS");
        LordsRoad x = Checks.chain(8);
        Checks.plainLord(x, 1, 0, 1);
        x.window(0, 0, 60, 30);
        anewIs(x, 60, 60, 0, 1, 60);
        anewIs(x, 60, 61, 0, 1, 60);
        anewIs(x, 60, 99, 0, 1, 60);
        anewIs(x, 60, 59, 0, 2, 60);
        anewIs(x, 0, 99, 0, 1, 0);
        anewIs(x, NONE, 60, 1, 1, 60);
        anewIs(x, NONE, 61, NONE, 0, NONE);
        anewIs(x, NONE, 99, NONE, 0, NONE);
    }

    private static void anewMovesTheFewest() {
        Checks.of(20, "the least sum of (10 less RANK) of those whose DAY is another one");
        LordsRoad x = two(0, 5, 0, 5);
        Checks.tell(x, "fine late*100;");
        x.set(0, 2);
        x.set(1, 2);
        Checks.due("none moves, for a YIELD", x.anew(2), 0);
        rowIs(x, 2, 2);
        Checks.due("row(0)", x.row(0), 16);
        Checks.due("judge(0)", x.judge(0), 1);
        x.set(0, 5);
        x.set(1, 5);
        Checks.due("none moves, for COSTS", x.anew(0), 0);
        rowIs(x, 5, 5);
        for (int rank : new int[] {0, 1, 8, 9}) {
            LordsRoad one = Checks.chain(8);
            Checks.plainLord(one, 1, rank, 1);
            one.window(0, 0, 9, 0);
            Checks.tell(one, "fine (late-5)*(late-5)*100;");
            one.set(0, 8);
            Checks.due("RANK " + rank + " doesn't move for COSTS", one.anew(0), 0);
            rowIs(one, 8);
            Checks.due("COSTS", one.judge(1), 900);
            one.set(0, 60);
            Checks.due("RANK " + rank + " moves, for he must", one.anew(0), 1);
            rowIs(one, 5);
        }
        Checks.of(20, "how many have another DAY");
        LordsRoad y = windows(3, 3, 3, 3, 3, 3);
        for (int moved = 0; moved <= 6; moved++) {
            for (int k = 0; k < 6; k++) {
                y.set(k, k < moved ? 20 + k : k % 3);
            }
            Checks.due("anew", y.anew(0), moved);
            Checks.due("row(0)", y.row(0), 729);
            for (int k = 0; k < 6; k++) {
                Checks.due("row(" + (1 + k) + ")", y.row(1 + k), k < moved ? 0 : k % 3);
            }
        }
    }

    private static void anewByYieldsCostDays() {
        Checks.of(20, "then by YIELDS, COST, DAYS likewise");
        LordsRoad x = two(0, 5, 0, 5);
        x.set(0, 2);
        Checks.due("by YIELDS", x.anew(2), 1);
        rowIs(x, 2, 3);
        judgedAs(x, 0, 20);
        Checks.tell(x, "fine late*100;");
        x.set(1, NONE);
        Checks.due("by YIELDS, dear or not", x.anew(2), 1);
        rowIs(x, 2, 3);
        Checks.tell(x, "fine 999-late*10;");
        x.set(1, NONE);
        Checks.due("by COST", x.anew(2), 1);
        rowIs(x, 2, 5);
        Checks.tell(x, "fine late>5;");
        x.set(1, NONE);
        x.set(0, NONE);
        Checks.due("by DAYS", x.anew(2), 2);
        rowIs(x, 2, 3);
        Checks.due("row(0)", x.row(0), 16);
        x.set(0, NONE);
        x.set(1, 0);
        Checks.due("one DAY ahead of d stays", x.anew(1), 1);
        Checks.due("row(0)", x.row(0), 5);
        rowIs(x, 2, 0);
    }

    private static void anewWhoAttends() {
        Checks.of(20, "of those who ATTEND");
        LordsRoad x = windows(3, 3, 61);
        x.set(0, 1);
        x.set(1, 9);
        Checks.tell(x, "attend house<>2;");
        Checks.due("anew", x.anew(0), 1);
        Checks.due("row(0)", x.row(0), 9);
        rowIs(x, 1, 0, NONE);
        Checks.tell(x, "attend 0;");
        Checks.due("of none", x.anew(99), 0);
        Checks.due("one empty ROW", x.row(0), 1);
    }

    private static void anewSpent() {
        Checks.of(20, "SPENT, and nothing happens");
        LordsRoad x = windows(61, 61);
        x.set(0, 60);
        x.set(1, 59);
        Checks.due("45 times 45", x.anew(16), NONE);
        Checks.due("row(0)", x.row(0), 2000);
        rowIs(x, 60, 59);
        Checks.due("44 times 44", x.anew(17), 0);
        Checks.due("row(0)", x.row(0), 1936);
        rowIs(x, 60, 59);
        x.set(0, 15);
        Checks.due("one stays", x.anew(16), 0);
        Checks.due("row(0)", x.row(0), 45);
        rowIs(x, 15, 59);
        LordsRoad y = windows(50, 40);
        Checks.due("2000 ROWS", y.anew(0), 2);
        Checks.due("row(0)", y.row(0), 2000);
        rowIs(y, 0, 0);
        LordsRoad z = windows(3, 23, 29);
        z.set(1, 5);
        Checks.due("2001 ROWS", z.anew(0), NONE);
        Checks.due("row(0)", z.row(0), 2000);
        rowIs(z, NONE, 5, NONE);
        Checks.due("five of them stay", z.anew(6), NONE);
        Checks.due("no DAY from 6 on for lord 0", z.row(0), 0);
    }

    private static void anewNoSuchRow() {
        Checks.of(20, "or there is no such ROW");
        LordsRoad x = windows(5, 5);
        x.set(0, 2);
        x.set(1, 4);
        int cost = x.judge(1);
        Checks.due("both ahead", x.anew(5), 0);
        x.set(1, 7);
        Checks.due("lord 1 has none", x.anew(7), NONE);
        Checks.due("row(0)", x.row(0), 0);
        rowIs(x, 2, 7);
        Checks.due("both arrive yet", x.judge(2), 2);
        Checks.due("COSTS as ahead", x.judge(1), cost);
        Checks.due("ahead of 8 he stays", x.anew(8), 0);
        Checks.due("row(0)", x.row(0), 1);
        rowIs(x, 2, 7);
    }

    private static void rowRefused() {
        Checks.of(21, "NONE for another what, or no such LORD");
        Checks.Call row = (x, a) -> x.row(a[0]);
        for (int what : new int[] {4, 5, 6, 7, 8, -1, -2, Integer.MIN_VALUE, Integer.MAX_VALUE}) {
            Checks.refused(Checks.BUSY, "row", NONE, row, what);
        }
        for (int what : new int[] {7, 8, -1, Integer.MIN_VALUE, Integer.MAX_VALUE}) {
            Checks.refused(Checks.FULL, "row", NONE, row, what);
        }
        for (int what = 1; what <= 6; what++) {
            Checks.refused(Checks.NEW, "row", NONE, row, what);
        }
        LordsRoad x = Checks.full();
        rowIs(x, 0, 1, 2, 3, 4, 5);
    }

    private static void rowOfTheLatest() {
        Checks.of(21, "of the latest plan() or anew() (that was SPENT, too), 0 ahead of any");
        LordsRoad x = windows(50, 40);
        Checks.due("ahead of any", x.row(0), 0);
        x.plan();
        Checks.due("2000 looks, not SPENT", x.row(0), 2000);
        x.anew(39);
        Checks.due("both stay", x.row(0), 1);
        x.set(0, NONE);
        x.anew(40);
        Checks.due("ten", x.row(0), 10);
        x.window(1, 0, 60, 99);
        x.plan();
        Checks.due("SPENT", x.row(0), 2000);
        x.set(0, NONE);
        x.anew(50);
        Checks.due("no such ROW", x.row(0), 0);
        x.window(0, 1, 2, 99);
        x.window(1, 4, 4, 99);
        x.plan();
        Checks.due("two", x.row(0), 2);
        x.set(0, 7);
        x.set(1, NONE);
        x.window(0, 0, 60, 99);
        x.edicts(0);
        Checks.due("two yet", x.row(0), 2);
        Checks.of(21, "of the ROW at hand: the DAY (NONE)");
        rowIs(x, 7, NONE);
    }

    /** The longest of all searches, as often as an object is used; answers don't wear out. */
    private static void manyCalls() {
        Checks.of(19, "512 calls");
        LordsRoad x = Checks.chain(1, 2, 1, 2, 1, 2, 1, 2, 1, 2, 1);
        for (int k = 0; k < 6; k++) {
            x.lord(11, k, k, 999, 0, 0);
            x.window(k, 3 * k, 3 * k + (k < 3 ? 4 : 1), 0);
        }
        Checks.tell(x, "march 2;fine late;");
        int best = x.plan();
        int looks = x.row(0);
        int cost = x.judge(1);
        int days = 0;
        for (int k = 1; k <= 6; k++) {
            days = days * 61 + x.row(k);
        }
        Checks.due("LOOKS", looks, 1000);
        for (int call = 40; call < 504; call++) {
            if (x.plan() != best) {
                Checks.due("plan", NONE, best);
            }
        }
        int last = 0;
        for (int k = 1; k <= 6; k++) {
            last = last * 61 + x.row(k);
        }
        Checks.due("the same ROW", last, days);
        Checks.due("the same COSTS", x.judge(1), cost);
    }
}
