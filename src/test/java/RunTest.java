/** The boundaries of promises 15 to 18, and of the RUN of part 4 of the document's terms. */
public final class RunTest {
    private static final int NONE = Checks.NONE;

    public static void main(String[] args) {
        refused();
        setsOut();
        withoutARun();
        heldForDays();
        heldAtTheLastDay();
        gateAtHome();
        gatesAhead();
        fullHouseAtAGate();
        goesToTheFarthest();
        shutOnTheWay();
        whoLodges();
        whoLodgesAskedLater();
        cityAndHomeAlways();
        yieldsOnceADay();
        aheadFirst();
        bearersOnAWay();
        givenByDays();
        paysRooms();
        excused();
        excusedNot();
        arrivesByDay99();
        late();
        lateLessExcused();
        costWithFine();
        judged();
        Checks.end();
    }

    private static void refused() {
        Checks.of(15, "NONE for another what");
        Checks.Call judge = (x, a) -> x.judge(a[0]);
        Checks.refusedBeside(Checks.BUSY, "judge", NONE, judge, new int[] {0}, new int[][] {{0, 3}});
        Checks.refusedBeside(Checks.NEW, "judge", NONE, judge, new int[] {0}, new int[][] {{0, 3}});
        Checks.of(16, "NONE: no such ones");
        Checks.Call night = (x, a) -> x.night(a[0], a[1], a[2]);
        Checks.refusedBeside(Checks.BUSY, "night", NONE, night, new int[] {1, 5, 2},
                new int[][] {{0, 2}, {0, 99}, {0, 4}});
        Checks.refusedBeside(Checks.FULL, "night", NONE, night, new int[] {1, 5, 2},
                new int[][] {{0, 5}, {0, 99}, {0, 4}});
        Checks.refused(Checks.NEW, "night", NONE, night, 0, 0, 0);
        Checks.of(17, "NONE: no such ones");
        Checks.Call end = (x, a) -> x.end(a[0], a[1]);
        Checks.refusedBeside(Checks.BUSY, "end", NONE, end, new int[] {1, 2}, new int[][] {{0, 2}, {0, 5}});
        Checks.refusedBeside(Checks.FULL, "end", NONE, end, new int[] {1, 2}, new int[][] {{0, 5}, {0, 5}});
        Checks.refused(Checks.NEW, "end", NONE, end, 0, 0);
        Checks.of(18, "NONE: no such ones (the CITY has none)");
        Checks.Call given = (x, a) -> x.given(a[0], a[1]);
        Checks.refusedBeside(Checks.BUSY, "given", NONE, given, new int[] {2, 1}, new int[][] {{1, 4}, {0, 1}});
        Checks.refusedBeside(Checks.FULL, "given", NONE, given, new int[] {2, 1}, new int[][] {{1, 11}, {0, 1}});
        Checks.refused(Checks.NEW, "given", NONE, given, 0, 0);
        Checks.refused(Checks.BUSY, "given", NONE, given, 0, 1);
    }

    /** By nights from a day on: the stations where a lord is. */
    private static void nights(LordsRoad x, int lord, int from, int... stations) {
        for (int k = 0; k < stations.length; k++) {
            Checks.due("night(" + lord + ", " + (from + k) + ", 0)", x.night(lord, from + k, 0), stations[k]);
        }
    }

    private static void nightValues(LordsRoad x, int lord, int what, int from, int... values) {
        for (int k = 0; k < values.length; k++) {
            Checks.due("night(" + lord + ", " + (from + k) + ", " + what + ")",
                    x.night(lord, from + k, what), values[k]);
        }
    }

    private static void ends(LordsRoad x, int lord, int... values) {
        for (int what = 0; what < values.length; what++) {
            Checks.due("end(" + lord + ", " + what + ")", x.end(lord, what), values[what]);
        }
    }

    private static void setsOut() {
        Checks.of(16, "at HOME up to the night before it; set out by then (that DAY, too)");
        for (int day : new int[] {0, 1, 59, 60}) {
            LordsRoad x = Checks.chain(8, 8, 8);
            Checks.plainLord(x, 3, 0, 1);
            x.set(0, day);
            if (day > 0) {
                nights(x, 0, day - 1, 3);
                nightValues(x, 0, 1, day - 1, 0);
                nights(x, 0, 0, 3);
            }
            nights(x, 0, day, 2, 1, 0, 0);
            nightValues(x, 0, 1, day, 1, 1, 2, 2);
            nightValues(x, 0, 4, day, 10, 20, 20, 20);
            nights(x, 0, 99, 0);
            nightValues(x, 0, 1, 99, 2);
            ends(x, 0, day + 2, Math.max(0, day + 2 - 30), 0, 0, 20, 0);
        }
    }

    private static void withoutARun() {
        Checks.of(16, "a LORD without a RUN is at HOME for ever; 17: NONE, or he has no RUN");
        LordsRoad x = Checks.chain(8, 8);
        Checks.plainLord(x, 2, 0, 100);
        Checks.plainLord(x, 1, 0, 100);
        Checks.tell(x, "fine 5;attend house=0;");
        x.set(1, 0);
        x.height(2, 0, 99, 99);
        for (int lord = 0; lord < 2; lord++) {
            for (int day : new int[] {0, 1, 60, 98, 99}) {
                Checks.due("HOME", x.night(lord, day, 0), 2 - lord);
                for (int what = 1; what < 5; what++) {
                    Checks.due("night(" + lord + ", " + day + ", " + what + ")", x.night(lord, day, what), 0);
                }
            }
            ends(x, lord, NONE, NONE, NONE, NONE, NONE, NONE);
        }
        int[] judgedNone = {0, 0, 0, NONE};
        for (int what = 0; what < 4; what++) {
            Checks.due("judge(" + what + ")", x.judge(what), judgedNone[what]);
        }
        for (int what = 0; what < 2; what++) {
            Checks.due("given(1, " + what + ")", x.given(1, what), 0);
            Checks.due("given(2, " + what + ")", x.given(2, what), 0);
        }
    }

    /** A gate at 1, so many hours each, a lord of one gun at the last station. */
    private static LordsRoad gate(int hold, int... hours) {
        LordsRoad x = new LordsRoad();
        for (int k = 0; k < hours.length; k++) {
            x.station(k, hours[k], 1, 999, 50, k == 0);
        }
        x.lord(hours.length, 0, 0, 1, 1, 0);
        Checks.tell(x, "hold " + hold + ";");
        return x;
    }

    private static void heldForDays() {
        Checks.of(16, "HELD for hold DAYS (from the next one on): one DAY less, he stays, and pays ROOM");
        for (int hold = 1; hold <= 9; hold++) {
            LordsRoad x = gate(hold, 4, 4);
            x.set(0, 7);
            nights(x, 0, 6, 2);
            nightValues(x, 0, 3, 6, 0);
            for (int k = 0; k <= hold; k++) {
                nights(x, 0, 7 + k, 1);
                nightValues(x, 0, 1, 7 + k, 1);
                nightValues(x, 0, 3, 7 + k, hold - k);
                nightValues(x, 0, 4, 7 + k, 10 * (k + 1));
            }
            nights(x, 0, 8 + hold, 0);
            nightValues(x, 0, 3, 8 + hold, 0);
            ends(x, 0, 8 + hold, 0, 0, 0, 10 * (hold + 1), 0);
            Checks.due("no YIELDS", x.judge(0), 0);
        }
        LordsRoad x = gate(1, 4, 4);
        x.edicts(0);
        x.set(0, 0);
        Checks.due("without a LINE hold 3", x.end(0, 0), 4);
    }

    private static void heldAtTheLastDay() {
        Checks.of(16, "DAYS he is yet to be HELD, when the DAYS end");
        LordsRoad x = gate(3, 4, 4);
        x.set(0, 60);
        x.height(2, 0, 97, 50);
        nights(x, 0, 97, 2, 1, 1);
        nightValues(x, 0, 3, 97, 0, 3, 2);
        ends(x, 0, NONE, 62, 38, 0, 20, 0);
        x.height(2, 98, 98, 50);
        nightValues(x, 0, 3, 98, 0, 3);
        x.height(2, 95, 98, 0);
        nightValues(x, 0, 3, 94, 0, 3, 2, 1, 0, 0);
        ends(x, 0, 99, 34, 35, 0, 40, 0);
    }

    private static void gateAtHome() {
        Checks.of(16, "no GATE ahead of it (other than where he is) at which he FAILS");
        LordsRoad x = new LordsRoad();
        x.station(0, 4, 1, 999, 100, true);
        x.lord(1, 0, 0, 1, 99, 99);
        x.set(0, 0);
        ends(x, 0, 0, 0, 0, 0, 0, 0);
        nightValues(x, 0, 3, 0, 0);
        LordsRoad two = new LordsRoad();
        two.station(0, 4, 1, 999, 100, false);
        two.station(1, 4, 1, 999, 100, true);
        two.lord(2, 0, 0, 1, 99, 99);
        two.set(0, 0);
        Checks.due("a gate behind him is none", two.end(0, 0), 0);
    }

    private static void gatesAhead() {
        Checks.of(16, "looked at each GATE where he comes to, or goes through; if he FAILS there, he is HELD");
        LordsRoad x = new LordsRoad();
        x.station(0, 2, 1, 999, 100, true);
        x.station(1, 2, 1, 999, 100, true);
        x.station(2, 2, 1, 999, 100, true);
        x.lord(3, 0, 0, 1, 1, 1);
        Checks.tell(x, "hold 1;");
        x.set(0, 0);
        nights(x, 0, 0, 2, 2, 1, 1, 0);
        nightValues(x, 0, 3, 0, 1, 0, 1, 0, 0);
        ends(x, 0, 4, 0, 0, 0, 40, 0);
        x.papers(0, 1, 0);
        Checks.due("PAPERS for GUNS alone", x.end(0, 0), 4);
        x.papers(0, 0, 1);
        Checks.due("PAPERS for WOMEN alone", x.end(0, 0), 4);
        x.papers(0, 1, 1);
        Checks.due("goes through all three", x.end(0, 0), 0);
        Checks.tell(x, "hold 1;march 2;");
        nights(x, 0, 0, 2, 1, 0);
        nightValues(x, 0, 3, 0, 0, 0, 0);
        x.papers(0, 0, 0);
        nights(x, 0, 0, 2, 2, 1, 1, 0);
        nightValues(x, 0, 3, 0, 1, 0, 1, 0, 0);
        Checks.of(16, "the GATE he comes to ends his DAY, however far he may march");
        LordsRoad y = gate(2, 1, 1, 1);
        y.set(0, 0);
        nights(y, 0, 0, 1, 1, 1, 0);
        y.papers(0, 99, 0);
        nights(y, 0, 0, 0);
    }

    private static void fullHouseAtAGate() {
        Checks.of(16, "he CAN come to a GATE at which he FAILS, if there is a HOUSE");
        LordsRoad x = gate(2, 2, 2, 2);
        x.lord(3, 1, 0, 1, 1, 0);
        x.set(0, 0);
        x.set(1, 0);
        nights(x, 0, 0, 1, 1, 1, 0);
        nights(x, 1, 0, 2, 2, 2, 1, 1, 1, 0);
        nightValues(x, 1, 2, 0, 1, 2, 3, 3, 3, 3, 3);
        nightValues(x, 1, 3, 0, 0, 0, 0, 2, 1, 0, 0);
        ends(x, 0, 3, 0, 0, 0, 30, 0);
        ends(x, 1, 6, 0, 0, 0, 60, 0);
        x.papers(1, 1, 0);
        nights(x, 1, 0, 0);
        Checks.due("with PAPERS he passes the one HELD", x.judge(0), 0);
    }

    private static void goesToTheFarthest() {
        Checks.of(16, "the HOURS up to it are march at most together");
        int[] hours = {3, 5, 2, 4, 1, 6};
        int[][] due = {{1, 6, 6, 6, 6}, {6, 5, 3, 2, 1}, {7, 4, 2, 1, 0}, {10, 4, 2, 0, 0}, {11, 3, 0, 0, 0},
            {12, 3, 0, 0, 0}, {13, 2, 0, 0, 0}, {17, 2, 0, 0, 0}, {18, 1, 0, 0, 0}, {20, 1, 0, 0, 0},
            {21, 0, 0, 0, 0}, {24, 0, 0, 0, 0}};
        for (int[] one : due) {
            LordsRoad x = Checks.chain(hours);
            Checks.plainLord(x, 6, 0, 1);
            Checks.tell(x, "march " + one[0] + ";");
            x.set(0, 0);
            nights(x, 0, 0, one[1], one[2], one[3], one[4]);
            Checks.due("no YIELDS by march " + one[0], x.judge(0), 0);
        }
    }

    private static void shutOnTheWay() {
        Checks.of(16, "no WAY up to it is shut on that DAY");
        for (int shut = 1; shut <= 3; shut++) {
            LordsRoad x = Checks.chain(2, 2, 2);
            Checks.plainLord(x, 3, 0, 1);
            x.set(0, 4);
            x.height(shut, 0, 4, 50);
            nights(x, 0, 4, shut, 0);
            Checks.due("EXCUSED at HOME alone", x.end(0, 2), shut == 3 ? 1 : 0);
            Checks.due("no YIELDS", x.judge(0), 0);
            x.height(shut, 4, 4, 49);
            nights(x, 0, 4, 0);
            x.height(shut, 0, 99, 0);
            x.height(shut, 5, 99, 99);
            nights(x, 0, 4, 0);
        }
    }

    private static void whoLodges() {
        Checks.of(16, "those who went or stayed there on that DAY");
        LordsRoad x = Checks.chain(8, 8, 8);
        Checks.plainLord(x, 3, 0, 1);
        Checks.plainLord(x, 3, 1, 1);
        x.set(0, 0);
        x.set(1, 0);
        nights(x, 0, 0, 2, 1, 0);
        nights(x, 1, 0, 3, 2, 1, 0);
        nightValues(x, 1, 2, 0, 1, 1, 1, 1);
        x.set(1, 1);
        x.height(2, 1, 1, 50);
        nights(x, 0, 0, 2, 2, 1, 0);
        nights(x, 1, 0, 3, 3, 2, 1);
        nightValues(x, 1, 2, 0, 0, 1, 1, 1);
        nightValues(x, 0, 2, 0, 0, 0, 0, 0);
        Checks.of(16, "where he lodged the night before he always has his");
        Checks.due("the one who stayed is EXCUSED", x.end(0, 2), 1);
        Checks.due("who finds no HOUSE is not", x.end(1, 2), 0);
    }

    private static void whoLodgesAskedLater() {
        Checks.of(16, "those who lodged there the night before and were not asked yet on that DAY");
        LordsRoad x = Checks.chain(8, 8);
        Checks.plainLord(x, 2, 1, 1);
        Checks.plainLord(x, 2, 0, 1);
        x.set(0, 0);
        x.set(1, 1);
        nights(x, 0, 0, 1, 0);
        nights(x, 1, 0, 2, 2, 1, 0);
        nightValues(x, 1, 2, 0, 0, 1, 1, 1);
        Checks.tell(x, "yield -rank;");
        nights(x, 0, 0, 1, 0);
        nights(x, 1, 0, 2, 1, 0);
        nightValues(x, 1, 2, 0, 0, 0, 0, 0);
        Checks.of(16, "he keeps his HOUSE while others wait for it");
        LordsRoad y = Checks.chain(8, 8);
        Checks.plainLord(y, 2, 1, 1);
        Checks.plainLord(y, 2, 0, 1);
        y.set(0, 0);
        y.set(1, 1);
        y.height(1, 1, 3, 50);
        nights(y, 0, 0, 1, 1, 1, 1, 0);
        nights(y, 1, 0, 2, 2, 2, 2, 2, 1, 0);
        nightValues(y, 1, 2, 0, 0, 1, 2, 3, 4, 4, 4);
        nightValues(y, 0, 2, 0, 0, 0, 0, 0, 0);
        ends(y, 0, 4, 0, 3, 0, 40, 0);
        ends(y, 1, 6, 0, 0, 0, 10, 0);
    }

    private static void cityAndHomeAlways() {
        Checks.of(16, "a HOUSE in the CITY always, at HOME always");
        LordsRoad x = Checks.chain(8);
        for (int k = 0; k < 6; k++) {
            Checks.plainLord(x, 1, k, 1);
            x.set(k, 0);
        }
        Checks.due("six in the CITY on one DAY", x.judge(2), 6);
        Checks.due("no YIELDS", x.judge(0), 0);
        Checks.due("the last one on 0", x.judge(3), 0);
        x.height(1, 0, 4, 99);
        for (int k = 0; k < 6; k++) {
            nights(x, k, 4, 1, 0);
            nightValues(x, k, 1, 4, 0, 2);
            ends(x, k, 5, 0, 5, 0, 0, 0);
        }
        Checks.due("no YIELDS of those shut in", x.judge(0), 0);
        Checks.due("no COSTS of those at HOME", x.judge(1), 0);
    }

    private static void yieldsOnceADay() {
        Checks.of(16, "if he CAN come farther, he YIELDS, once for that DAY");
        LordsRoad x = Checks.chain(2, 2, 2, 2);
        for (int k = 0; k < 4; k++) {
            Checks.plainLord(x, 4, k, 1);
            x.set(k, 0);
        }
        Checks.tell(x, "march 6;");
        // on DAY 0 to 1, 2, 3 and none; on DAY 1 three are there, and the last one goes as far as 1
        nights(x, 0, 0, 1, 0);
        nights(x, 1, 0, 2, 0);
        nights(x, 2, 0, 3, 0);
        nights(x, 3, 0, 4, 1, 0);
        nightValues(x, 0, 2, 0, 0, 0);
        nightValues(x, 1, 2, 0, 1, 1);
        nightValues(x, 2, 2, 0, 1, 1);
        nightValues(x, 3, 2, 0, 1, 1, 1);
        Checks.due("all YIELDS", x.judge(0), 3);
        Checks.of(16, "YIELDS so far");
        x.height(1, 1, 9, 99);
        // nobody leaves 1 till DAY 10, so all others can come no farther than 1, and yield each DAY
        nightValues(x, 1, 2, 0, 1, 2, 3, 4, 5, 6, 7, 8, 9, 10, 10);
        nightValues(x, 0, 2, 9, 0, 0);
        nights(x, 3, 9, 4, 1, 0);
        Checks.due("ten each", x.judge(0), 30);
    }

    private static void aheadFirst() {
        Checks.of(15, "one LORD behind the other, AHEAD first");
        String[] texts = {"", "yield rank;", "yield -rank;", "yield 0;", "yield rank%2,rank;", "yield worth,rank;"};
        int[][] firsts = {{0, 1, 2, 3}, {0, 1, 2, 3}, {3, 2, 1, 0}, {0, 1, 2, 3}, {0, 2, 1, 3}, {0, 1, 2, 3}};
        for (int k = 0; k < texts.length; k++) {
            LordsRoad x = Checks.chain(8, 8);
            for (int lord = 0; lord < 4; lord++) {
                Checks.plainLord(x, 2, lord, 1);
                x.set(lord, 0);
            }
            Checks.tell(x, texts[k]);
            // the first leaves the only HOUSE on each DAY ahead of the next one's turn
            for (int turn = 0; turn < 4; turn++) {
                Checks.due("arrival of turn " + turn + " by " + texts[k], x.end(firsts[k][turn], 0), turn + 1);
                Checks.due("YIELDS of turn " + turn + " by " + texts[k], x.night(firsts[k][turn], 99, 2), turn);
            }
        }
    }

    private static LordsRoad villages(int pay) {
        LordsRoad x = new LordsRoad();
        x.station(0, 4, 1, 5, 100, false);
        x.station(1, 4, 1, 3, 100, false);
        for (int k = 0; k < 3; k++) {
            Checks.plainLord(x, 2, k, 1);
        }
        Checks.tell(x, "bearers 4;pay " + pay + ";");
        return x;
    }

    private static void bearersOnAWay() {
        Checks.of(17, "villages give what is left of DUTY there on that DAY, the rest are hired, each for pay coins");
        for (int pay : new int[] {0, 1, 2, 99}) {
            LordsRoad x = villages(pay);
            x.set(0, 0);
            x.set(1, 0);
            x.set(2, 0);
            ends(x, 0, 0, 0, 0, 0, pay, 1);
            ends(x, 1, 0, 0, 0, 0, 7 * pay, 7);
            ends(x, 2, 0, 0, 0, 0, 8 * pay, 8);
            Checks.due("COSTS", x.judge(1), 16 * pay);
            nightValues(x, 1, 4, 0, 7 * pay, 7 * pay);
            x.set(1, 1);
            ends(x, 0, 0, 0, 0, 0, pay, 1);
            ends(x, 1, 1, 0, 0, 0, pay, 1);
            ends(x, 2, 0, 0, 0, 0, 7 * pay, 7);
        }
        LordsRoad x = villages(2);
        x.set(0, 0);
        Checks.tell(x, "bearers 0;");
        ends(x, 0, 0, 0, 0, 0, 0, 0);
        Checks.due("none given", x.given(1, 0), 0);
        Checks.tell(x, "bearers 3;");
        ends(x, 0, 0, 0, 0, 0, 0, 0);
        Checks.due("three given of three", x.given(2, 0), 3);
    }

    private static void givenByDays() {
        Checks.of(18, "bearers given in all, and the most on one DAY");
        LordsRoad x = villages(2);
        x.set(0, 0);
        x.set(1, 1);
        x.set(2, 1);
        int[][] due = {{0, 0}, {9, 5}, {6, 3}};
        for (int way = 1; way <= 2; way++) {
            for (int what = 0; what < 2; what++) {
                Checks.due("given(" + way + ", " + what + ")", x.given(way, what), due[way][what]);
            }
        }
        x.set(1, 0);
        Checks.due("two on DAY 0: in all", x.given(1, 0), 9);
        Checks.due("two on DAY 0: at most", x.given(1, 1), 5);
        x.set(2, NONE);
        Checks.due("the third has none: in all", x.given(1, 0), 5);
        x.set(1, 60);
        Checks.due("apart: in all", x.given(1, 0), 8);
        Checks.due("apart: at most", x.given(1, 1), 4);
        Checks.of(18, "a WAY that nobody goes");
        int other = x.station(2, 4, 1, 7, 100, false);
        Checks.due("in all", x.given(other, 0), 0);
        Checks.due("at most", x.given(other, 1), 0);
        Checks.of(18, "on DAY 99, too");
        LordsRoad last = Checks.chain(4);
        Checks.plainLord(last, 1, 0, 120);
        last.set(0, 60);
        last.height(1, 0, 98, 99);
        Checks.due("twelve on DAY 99", last.given(1, 0), 12);
        last.height(1, 99, 99, 99);
        Checks.due("none", last.given(1, 0), 0);
    }

    private static void paysRooms() {
        Checks.of(16, "for a night neither at HOME nor in the CITY he pays ROOM");
        for (int room : new int[] {0, 1, 9999}) {
            LordsRoad x = Checks.chain(8, 8, 8);
            Checks.plainLord(x, 3, 0, 1);
            Checks.tell(x, "room " + room + ";");
            x.set(0, 1);
            x.height(3, 1, 2, 50);
            x.height(1, 5, 6, 50);
            nights(x, 0, 0, 3, 3, 3, 2, 1, 1, 1, 0, 0);
            nightValues(x, 0, 4, 0, 0, 0, 0, room, 2 * room, 3 * room, 4 * room, 4 * room, 4 * room);
            ends(x, 0, 7, 0, 4, 0, 4 * room, 0);
        }
        LordsRoad x = Checks.chain(9);
        Checks.plainLord(x, 1, 0, 1);
        x.set(0, 0);
        Checks.due("who stays at HOME for ever pays none", x.night(0, 99, 4), 0);
    }

    private static void excused() {
        Checks.of(17, "a DAY on which he is not HELD, stays where he is and the WAY from there is shut is EXCUSED");
        LordsRoad x = Checks.chain(8, 8);
        Checks.plainLord(x, 2, 0, 1);
        x.set(0, 2);
        x.height(2, 0, 3, 50);
        x.height(1, 4, 6, 50);
        nights(x, 0, 1, 2, 2, 2, 1, 1, 1, 0);
        ends(x, 0, 7, 0, 4, 0, 30, 0);
        Checks.of(17, "at HOME from the DAY to set out on");
        for (int day = 0; day <= 4; day++) {
            x.set(0, day);
            x.height(1, 4, 6, 0);
            Checks.due("EXCUSED, set out on " + day, x.end(0, 2), 4 - day);
        }
        Checks.of(17, "too far for march, and shut");
        LordsRoad far = Checks.chain(9);
        Checks.plainLord(far, 1, 0, 1);
        far.set(0, 0);
        far.height(1, 0, 9, 50);
        ends(far, 0, NONE, 90, 10, 0, 0, 0);
        far.height(1, 0, 9, 0);
        ends(far, 0, NONE, 100, 0, 0, 0, 0);
        far.height(1, 99, 99, 50);
        ends(far, 0, NONE, 99, 1, 0, 0, 0);
        Checks.due("that is no YIELD", far.judge(0), 0);
    }

    private static void excusedNot() {
        Checks.of(17, "not EXCUSED: HELD");
        LordsRoad held = gate(3, 4, 4);
        held.set(0, 0);
        held.height(1, 1, 3, 50);
        ends(held, 0, 4, 0, 0, 0, 40, 0);
        held.height(1, 4, 4, 50);
        ends(held, 0, 5, 0, 1, 0, 50, 0);
        Checks.of(17, "not EXCUSED: he goes, though the next WAY is shut");
        LordsRoad x = Checks.chain(4, 4);
        Checks.plainLord(x, 2, 0, 1);
        x.set(0, 0);
        x.height(1, 0, 0, 50);
        nights(x, 0, 0, 1, 0);
        ends(x, 0, 1, 0, 0, 0, 10, 0);
        x.height(1, 0, 1, 50);
        nights(x, 0, 0, 1, 1, 0);
        ends(x, 0, 2, 0, 1, 0, 20, 0);
        Checks.of(17, "not EXCUSED: another WAY is shut, no HOUSE is free");
        LordsRoad y = Checks.chain(8, 8);
        Checks.plainLord(y, 2, 0, 1);
        Checks.plainLord(y, 2, 1, 1);
        y.set(0, 0);
        y.set(1, 0);
        y.height(1, 0, 1, 50);
        nights(y, 1, 0, 2, 2, 1, 0);
        ends(y, 0, 2, 0, 1, 0, 20, 0);
        ends(y, 1, 3, 0, 0, 0, 10, 0);
        Checks.due("he YIELDS instead", y.judge(0), 2);
        Checks.of(17, "not EXCUSED: behind his arrival");
        x.height(1, 0, 99, 0);
        x.height(1, 1, 99, 99);
        x.height(2, 1, 99, 99);
        ends(x, 0, 0, 0, 0, 0, 0, 0);
    }

    private static void arrivesByDay99() {
        Checks.of(17, "the DAY on which he comes to the CITY (none, if not by DAY 99)");
        LordsRoad x = Checks.chain(8);
        Checks.plainLord(x, 1, 0, 1);
        x.window(0, 0, 0, 99);
        x.set(0, 60);
        x.height(1, 0, 98, 50);
        ends(x, 0, 99, 0, 39, 0, 0, 0);
        nights(x, 0, 98, 1, 0);
        Checks.due("one arrives", x.judge(2), 1);
        Checks.due("on 99", x.judge(3), 99);
        x.height(1, 99, 99, 50);
        ends(x, 0, NONE, 60, 40, 0, 0, 0);
        nights(x, 0, 98, 1, 1);
        Checks.due("none arrives", x.judge(2), 0);
        Checks.due("no last one", x.judge(3), NONE);
        LordsRoad long1 = Checks.chain(1, 1, 1, 1, 1, 1, 1, 1, 1, 1, 1);
        Checks.plainLord(long1, 11, 0, 1);
        Checks.tell(long1, "march 1;");
        long1.set(0, 60);
        long1.height(11, 60, 88, 50);
        Checks.due("eleven DAYS from 89 on", long1.end(0, 0), 99);
        long1.height(11, 89, 89, 50);
        Checks.due("eleven DAYS from 90 on", long1.end(0, 0), NONE);
        nights(long1, 0, 98, 2, 1);
    }

    private static void late() {
        Checks.of(17, "LATE: by how many DAYS behind DUE (0, if it isn't; 100, if he doesn't arrive)");
        LordsRoad x = Checks.chain(8);
        Checks.plainLord(x, 1, 0, 1);
        int[][] due = {{0, 0, 0}, {1, 0, 1}, {0, 1, 0}, {60, 0, 60}, {60, 59, 1}, {60, 60, 0}, {60, 61, 0}, {0, 99, 0}};
        for (int[] one : due) {
            x.set(0, one[0]);
            x.window(0, 0, 0, one[1]);
            Checks.due("LATE, arrived on " + one[0] + ", DUE " + one[1], x.end(0, 1), one[2]);
        }
        LordsRoad far = Checks.chain(9);
        Checks.plainLord(far, 1, 0, 1);
        for (int day : new int[] {0, 60}) {
            for (int dueDay : new int[] {0, 99}) {
                far.set(0, day);
                far.window(0, 0, 0, dueDay);
                ends(far, 0, NONE, 100, 0, 0, 0, 0);
            }
        }
    }

    private static void lateLessExcused() {
        Checks.of(17, "less those EXCUSED, 0 at least");
        LordsRoad x = Checks.chain(8);
        Checks.plainLord(x, 1, 0, 1);
        x.window(0, 0, 0, 2);
        for (int shut = 0; shut <= 5; shut++) {
            x.set(0, 4);
            x.height(1, 0, 99, 0);
            if (shut > 0) {
                x.height(1, 4, 3 + shut, 50);
            }
            // arrives on 4 + shut, of which so many are excused
            ends(x, 0, 4 + shut, 2, shut, 0, 0, 0);
        }
        x.set(0, 1);
        x.height(1, 0, 99, 0);
        x.height(1, 1, 2, 50);
        ends(x, 0, 3, 0, 2, 0, 0, 0);
        Checks.of(17, "100 less those EXCUSED");
        for (int day : new int[] {0, 1, 2, 59, 60}) {
            x.height(1, 0, 99, 50);
            x.set(0, day);
            ends(x, 0, NONE, day, 100 - day, 0, 0, 0);
        }
        x.set(0, 0);
        x.window(0, 0, 0, 0);
        x.height(1, 99, 99, 0);
        ends(x, 0, 99, 0, 99, 0, 0, 0);
        x.set(0, 1);
        ends(x, 0, 99, 1, 98, 0, 0, 0);
    }

    private static void costWithFine() {
        Checks.of(17, "COST: all pay, ROOMS, and FINE (late is LATE there)");
        LordsRoad x = Checks.chain(8, 8);
        Checks.plainLord(x, 2, 0, 9);
        Checks.tell(x, "fine late*100+3;bearers 1000;pay 5;room 7;");
        x.window(0, 0, 0, 3);
        x.set(0, 3);
        // one bearer hired on each of two ways, one night, one day late
        ends(x, 0, 4, 1, 0, 103, 10 + 7 + 103, 2);
        nightValues(x, 0, 4, 2, 0, 12, 17, 17);
        nightValues(x, 0, 4, 99, 17);
        Checks.due("COSTS with FINE", x.judge(1), 120);
        x.set(0, 2);
        ends(x, 0, 3, 0, 0, 3, 20, 2);
        x.height(2, 0, 99, 50);
        x.set(0, 60);
        ends(x, 0, NONE, 60, 40, 6003, 6003, 0);
        Checks.tell(x, "fine late-60;");
        ends(x, 0, NONE, 60, 40, 0, 0, 0);
        Checks.tell(x, "fine late*late*late;");
        ends(x, 0, NONE, 60, 40, 9999, 9999, 0);
    }

    private static void judged() {
        Checks.of(15, "YIELDS, COSTS, how many ARRIVE, the DAY on which the last one does (NONE)");
        LordsRoad x = Checks.chain(8, 8);
        x.station(0, 8, 1, 999, 50, false);
        for (int k = 0; k < 6; k++) {
            Checks.plainLord(x, k < 3 ? 2 : 3, k, 1);
        }
        int[] none = {0, 0, 0, NONE};
        for (int what = 0; what < 4; what++) {
            Checks.due("no DAYS, judge(" + what + ")", x.judge(what), none[what]);
        }
        x.set(3, 9);
        int[] one = {0, 0, 1, 9};
        for (int what = 0; what < 4; what++) {
            Checks.due("one, judge(" + what + ")", x.judge(what), one[what]);
        }
        x.set(0, 2);
        x.set(1, 2);
        int[] three = {1, 20, 3, 9};
        for (int what = 0; what < 4; what++) {
            Checks.due("three, judge(" + what + ")", x.judge(what), three[what]);
        }
        x.set(2, 9);
        x.set(4, 60);
        x.set(5, 0);
        int[] six = {1, 30, 6, 60};
        for (int what = 0; what < 4; what++) {
            Checks.due("six, judge(" + what + ")", x.judge(what), six[what]);
        }
        x.height(3, 11, 99, 99);
        int[] five = {1, 30, 5, 10};
        for (int what = 0; what < 4; what++) {
            Checks.due("five, judge(" + what + ")", x.judge(what), five[what]);
        }
    }
}
