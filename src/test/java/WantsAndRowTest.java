/** The boundaries of promises 12 to 14, and of the VALUES of part 3 of the document's terms. */
public final class WantsAndRowTest {
    private static final int NONE = Checks.NONE;
    private static final int NO = Checks.NO;
    private static final int YES = Checks.YES;
    /** Ten to the 12. */
    private static final String MOST = "1000*1000*1000*1000";
    private static final String DOWN = "/1000/1000/1000";

    public static void main(String[] args) {
        wantsRefused();
        lateOfFine();
        namesOfALord();
        signs();
        divisions();
        mostValue();
        errorsOfAnE();
        bothSides();
        leastAndMostCoins();
        attends();
        aheadRefused();
        aheadByYield();
        aheadWithErrors();
        setRefused();
        setTaken();
        Checks.end();
    }

    private static void wantsRefused() {
        Checks.of(12, "NONE: no such ones");
        Checks.Call wants = (x, a) -> x.wants(a[0], a[1], a[2]);
        Checks.refusedBeside(Checks.BUSY, "wants", NONE, wants, new int[] {1, 3, 50},
                new int[][] {{0, 2}, {0, 3}, {0, 100}});
        Checks.refusedBeside(Checks.FULL, "wants", NONE, wants, new int[] {1, 3, 50},
                new int[][] {{0, 5}, {0, 3}, {0, 100}});
        for (int what = 0; what < 4; what++) {
            Checks.refused(Checks.NEW, "wants", NONE, wants, 0, what, 0);
            Checks.refused(Checks.BUSY, "wants", NONE, wants, 3, what, 0);
            Checks.refused(Checks.BUSY, "wants", NONE, wants, -1, what, 0);
        }
    }

    private static void lateOfFine() {
        Checks.of(12, "3: FINE with v as LATE (0 .. 100)");
        LordsRoad x = Checks.chain(1);
        Checks.plainLord(x, 1, 0, 1);
        Checks.tell(x, "fine 3*late+1;");
        for (int v = 0; v <= 100; v++) {
            Checks.due("wants(0, 3, " + v + ")", x.wants(0, 3, v), 3 * v + 1);
        }
        x.edicts(0);
        Checks.due("without a LINE", x.wants(0, 3, 100), 0);
    }

    private static void namesOfALord() {
        Checks.of(12, "house: its number; hours: BETWEEN its HOME and the CITY; the others as told");
        LordsRoad x = Checks.chain(20, 20, 20, 20, 20, 20, 20, 20, 20, 20, 20);
        x.lord(1, 0, 0, 1, 0, 0);
        x.lord(11, 9, 999, 999, 99, 99);
        x.papers(1, 7, 8);
        x.year(9999);
        String[] names = {"year", "rank", "worth", "men", "house", "hours", "guns", "women"};
        int[][] due = {{9999, 0, 0, 1, 0, 20, 0, 0}, {9999, 9, 999, 999, 1, 220, 99, 99}};
        for (int k = 0; k < names.length; k++) {
            Checks.due("edicts", Checks.tell(x, "room " + names[k] + ";"), 1);
            for (int lord = 0; lord < 2; lord++) {
                Checks.due(names[k] + " of lord " + lord, x.wants(lord, 2, 0), due[lord][k]);
            }
        }
    }

    /** What an E is worth as a ROOM of a plain lord of rank 4. */
    private static void worth(String e, int want) {
        LordsRoad x = Checks.chain(7);
        Checks.plainLord(x, 1, 4, 1);
        Checks.due("edicts of room " + e, Checks.tell(x, "room " + e + ";"), 1);
        Checks.due(e, x.wants(0, 2, 0), want);
    }

    private static void signs() {
        Checks.of(12, "comparisons, and, or, not are 1 or 0 (what isn't 0 is as 1)");
        String[] signs = {"<", "<=", "=", "<>", ">=", ">"};
        int[][] due = {{1, 0, 0}, {1, 1, 0}, {0, 1, 0}, {1, 0, 1}, {0, 1, 1}, {0, 0, 1}};
        for (int k = 0; k < signs.length; k++) {
            for (int a = 3; a <= 5; a++) {
                worth(a + signs[k] + "rank", due[k][a - 3]);
                worth("rank-4-" + (7 - a) + signs[k] + "0-3", due[k][a - 3]);
            }
        }
        int[] values = {0, 1, 2, 99999};
        for (int a : values) {
            worth("not " + a, a == 0 ? 1 : 0);
            worth("not -" + a, a == 0 ? 1 : 0);
            for (int b : values) {
                worth(a + " and " + b, a != 0 && b != 0 ? 1 : 0);
                worth(a + " or " + b, a != 0 || b != 0 ? 1 : 0);
                worth("-" + a + " and -" + b, a != 0 && b != 0 ? 1 : 0);
                worth("-" + a + " or -" + b, a != 0 || b != 0 ? 1 : 0);
            }
        }
        worth("0--5", 5);
        worth("---5+9", 4);
        worth("-rank+9", 5);
        worth("9-5-1", 3);
        worth("9-(5-1)", 5);
        worth("2+3*rank", 14);
        worth("not rank=4", 0);
        worth("not 0=rank", 1);
        worth("not 1 or 1", 1);
        worth("not 0 and 0", 0);
        worth("1 or 1 and 0", 1);
        worth("0 and 1 or 1", 1);
        worth("0 and (1 or 1)", 0);
        worth("3-1=2", 1);
        worth("-2<-1", 1);
        worth("-2*3+10", 4);
        worth("(1<2)+(2<3)+(3<2)", 2);
    }

    private static void divisions() {
        Checks.of(12, "/ towards 0, % what is left then");
        int[][] due = {{7, 2, 3, 1}, {-7, 2, -3, -1}, {7, -2, -3, 1}, {-7, -2, 3, -1}, {6, 3, 2, 0}, {-6, 3, -2, 0},
            {0, 5, 0, 0}, {0, -5, 0, 0}, {1, 2, 0, 1}, {-1, 2, 0, -1}, {1, -2, 0, 1}, {99999, 1, 99999, 0},
            {99999, -1, -99999, 0}, {99999, 99999, 1, 0}, {99998, 99999, 0, 99998}, {-99998, 99999, 0, -99998}};
        for (int[] one : due) {
            String a = one[0] < 0 ? "-" + -one[0] : "" + one[0];
            String b = one[1] < 0 ? "-" + -one[1] : "" + one[1];
            worth(a + "/" + b + "=" + (one[2] < 0 ? "0-" + -one[2] : "" + one[2]) + " and 7", 1);
            worth(a + "%" + b + "=" + (one[3] < 0 ? "0-" + -one[3] : "" + one[3]) + " and 7", 1);
        }
        worth("100/7/2", 7);
        worth("100/(7/2)", 33);
        worth("100%7*3", 6);
        worth("100*7%3", 1);
        Checks.of(12, "ERROR: / or % by 0");
        for (String zero : new String[] {"0", "-0", "(1-1)", "(rank-4)", "year", "(1=2)", "0*5"}) {
            worth("1+5/" + zero, 0);
            worth("1+5%" + zero, 0);
            worth("1+0/" + zero, 0);
            worth("1+0%" + zero, 0);
        }
        worth("1+5/-1+9", 5);
        worth("1+5/1", 6);
        worth("1+5%1", 1);
    }

    private static void mostValue() {
        Checks.of(12, "ERROR: a value above 10 to the 12 or below 0 by more than that");
        worth(MOST + DOWN, 1000);
        worth("7+0*(" + MOST + ")", 7);
        worth("7+0*(" + MOST + "+0)", 7);
        worth("7+0*(" + MOST + "+1)", 0);
        worth("7+0*(" + MOST + "-1+1)", 7);
        worth("7+0*(1+" + MOST + ")", 0);
        worth("7+0*(" + MOST + "*1)", 7);
        worth("7+0*(" + MOST + "*2)", 0);
        worth("7+0*(" + MOST + "*-1)", 7);
        worth("7+0*(" + MOST + "*-2)", 0);
        worth("7+0*(-1*" + MOST + "*2)", 0);
        worth("7+0*(0*(" + MOST + "))", 7);
        worth("7+0*((" + MOST + ")*0)", 7);
        worth("7+0*((" + MOST + ")*(" + MOST + "))", 0);
        worth("7+0*(-(" + MOST + "))", 7);
        worth("7+0*(-(" + MOST + ")+1-1)", 7);
        worth("7+0*(-(" + MOST + ")-1)", 0);
        worth("7+0*(-(" + MOST + ")-1+1)", 0);
        worth("7+0*(0-" + MOST + ")", 7);
        worth("7+0*(0-" + MOST + "-1)", 0);
        worth("7+0*(0-1-" + MOST + ")", 0);
        worth("7+0*(" + MOST + "-(0-1))", 0);
        worth("7+0*(" + MOST + "-" + MOST + ")", 7);
        worth("7+0*(" + MOST + "--1)", 0);
        worth("7+0*(-1-(" + MOST + "))", 0);
        worth("7+0*(-(" + MOST + ")+(0-(" + MOST + ")))", 0);
        worth("7+0*(" + MOST + "/1)", 7);
        worth("7+0*(" + MOST + "/-1)", 7);
        worth("(" + MOST + ")%7", 1);
        worth("7+0*(99999*99999*100)", 7);
        worth("7+0*(99999*99999*101)", 0);
        worth("7+0*(-99999*99999*100)", 7);
        worth("7+0*(-99999*99999*101)", 0);
        worth("7+0*(99999*-99999*101)", 0);
        // 64 * 15625 is a million, and 2 to the 63 lies far beyond
        worth("7+0*(64*15625*64*15625)", 7);
        worth("7+0*(64*15625*(64*15625+1))", 0);
        worth("7+0*(99999*99999*(99999*99999))", 0);
        worth("7+0*(65536*65536*(65536*65536))", 0);
        worth("7+0*(65536*65536*-(65536*65536/2))", 0);
        worth("1+(" + MOST + "=" + MOST + ")", 2);
        worth("1+(" + MOST + ">" + MOST + "-1)", 2);
    }

    private static void errorsOfAnE() {
        Checks.of(12, "an E with an ERROR is 0");
        LordsRoad x = Checks.chain(7);
        Checks.plainLord(x, 1, 4, 1);
        Checks.tell(x, "attend 5+1/0;bearers 7+1%0;room 8+99999*99999*99999;fine 9+1/(late-5);");
        Checks.due("ATTENDS not", x.wants(0, 0, 0), 0);
        Checks.due("BEARERS", x.wants(0, 1, 0), 0);
        Checks.due("ROOM", x.wants(0, 2, 0), 0);
        Checks.due("FINE of 4", x.wants(0, 3, 4), 8);
        Checks.due("FINE of 5", x.wants(0, 3, 5), 0);
        Checks.due("FINE of 6", x.wants(0, 3, 6), 10);
        worth("(1/0)+5", 0);
        worth("5+((((1/0))))", 0);
        worth("1/0*0", 0);
        worth("-(1/0)+5", 0);
        worth("not 1/0", 0);
        worth("1/0=0", 0);
        worth("1=1/0", 0);
        worth("1/0<1", 0);
    }

    private static void bothSides() {
        Checks.of(12, "both sides are worked out");
        worth("1 or 1/0", 0);
        worth("1 or 1%0", 0);
        worth("1/0 or 1", 0);
        worth("1+(0 and 1/0)", 0);
        worth("not (0 and 1/0)", 0);
        worth("0 and 1/0 or 1", 0);
        worth("1 or 99999*99999*99999", 0);
        worth("1 or 0 and 1/0", 0);
        worth("1 or 1/1", 1);
    }

    private static void leastAndMostCoins() {
        Checks.of(12, "BEARERS, ROOM, FINE: 0 at least, 9999 at most");
        String[] lines = {"bearers ", "room ", "fine "};
        String[] told = {"0", "1", "9998", "9999", "9999+1", "10000", "99999", MOST, "-1", "0-9999", "-(" + MOST + ")"};
        int[] due = {0, 1, 9998, 9999, 9999, 9999, 9999, 9999, 0, 0, 0};
        for (int k = 0; k < told.length; k++) {
            for (int line = 0; line < lines.length; line++) {
                LordsRoad x = Checks.chain(1);
                Checks.plainLord(x, 1, 0, 1);
                Checks.tell(x, lines[line] + told[k] + ";");
                Checks.due(lines[line] + told[k], x.wants(0, 1 + line, 0), due[k]);
            }
        }
        LordsRoad x = Checks.chain(1);
        Checks.plainLord(x, 1, 0, 1);
        Checks.tell(x, "bearers 99999;room 99999;fine 99999;pay 99;");
        x.set(0, 0);
        Checks.due("9000 of 9999 are hired", x.end(0, 5), 9000);
        Checks.due("for 99 coins each, and a FINE of 9999", x.end(0, 4), 9000 * 99 + 9999);
        Checks.due("the FINE", x.end(0, 3), 9999);
    }

    private static void attends() {
        Checks.of(12, "a LORD ATTENDS if attend isn't 0");
        String[] told = {"0", "1", "-1", "2", "99999", "-99999", MOST, "-(" + MOST + ")", MOST + "+1", "1-1", "1/2", "rank=4"};
        int[] due = {0, 1, 1, 1, 1, 1, 1, 1, 0, 0, 0, 1};
        for (int k = 0; k < told.length; k++) {
            LordsRoad x = Checks.chain(1);
            Checks.plainLord(x, 1, 4, 1);
            x.set(0, 0);
            Checks.due("edicts", Checks.tell(x, "attend " + told[k] + ";"), 1);
            Checks.due("attend " + told[k], x.wants(0, 0, 0), due[k]);
            Checks.due("his RUN, attend " + told[k], x.end(0, 0), due[k] == 1 ? 0 : NONE);
        }
    }

    private static void aheadRefused() {
        Checks.of(13, "NONE: no such ones, or both the same");
        Checks.Call ahead = (x, a) -> x.ahead(a[0], a[1]);
        Checks.refusedBeside(Checks.BUSY, "ahead", NONE, ahead, new int[] {1, 2}, new int[][] {{0, 2}, {0, 2}});
        Checks.refusedBeside(Checks.FULL, "ahead", NONE, ahead, new int[] {1, 2}, new int[][] {{0, 5}, {0, 5}});
        for (int k = -1; k <= 3; k++) {
            Checks.refused(Checks.BUSY, "ahead", NONE, ahead, k, k);
        }
        Checks.refused(Checks.NEW, "ahead", NONE, ahead, 0, 0);
        Checks.refused(Checks.NEW, "ahead", NONE, ahead, 0, 1);
        LordsRoad x = Checks.chain(1);
        Checks.plainLord(x, 1, 0, 1);
        Checks.due("one lord alone", x.ahead(0, 1), NONE);
        Checks.due("one lord alone", x.ahead(1, 0), NONE);
    }

    /** For lords of ranks 3, 3, 2, worths 5, 4, 4, guns 1, 2, 3: who of each two is AHEAD. */
    private static void order(String edicts, int of01, int of02, int of12) {
        LordsRoad x = Checks.chain(1);
        x.lord(1, 3, 5, 1, 1, 0);
        x.lord(1, 3, 4, 1, 2, 0);
        x.lord(1, 2, 4, 1, 3, 0);
        Checks.tell(x, edicts);
        int[][] due = {{0, 1, of01}, {0, 2, of02}, {1, 2, of12}};
        for (int[] one : due) {
            Checks.due(edicts + " ahead(" + one[0] + ", " + one[1] + ")", x.ahead(one[0], one[1]), one[2]);
            Checks.due(edicts + " ahead(" + one[1] + ", " + one[0] + ")", x.ahead(one[1], one[0]), one[2]);
        }
    }

    private static void aheadByYield() {
        Checks.of(13, "the lesser first E of yield, of like ones the second, then the third, then the lesser number");
        order("", 0, 2, 2);
        order("yield rank;", 0, 2, 2);
        order("yield 0;", 0, 0, 1);
        order("yield worth;", 1, 2, 1);
        order("yield -worth;", 0, 0, 1);
        order("yield rank,worth;", 1, 2, 2);
        order("yield worth,rank;", 1, 2, 2);
        order("yield worth,-rank;", 1, 2, 1);
        order("yield 0,worth;", 1, 2, 1);
        order("yield 0,0,worth;", 1, 2, 1);
        order("yield 7,7,-guns;", 1, 2, 2);
        order("yield 0,worth,-guns;", 1, 2, 2);
        order("yield 0,0,0;", 0, 0, 1);
        order("yield rank,-worth,-guns;", 0, 2, 2);
        order("yield rank=3,0,-guns;", 1, 2, 2);
        order("yield -(" + MOST + ")*(guns=1)+0,0;", 0, 0, 1);
        order("yield guns*(" + MOST + "/3)-(" + MOST + ");", 0, 0, 1);
    }

    private static void aheadWithErrors() {
        Checks.of(13, "an E of yield with an ERROR is 0");
        order("yield 1/0;", 0, 0, 1);
        order("yield 1/0,worth;", 1, 2, 1);
        // worth 5 has the error: its 0 stands against 1 of the others
        order("yield 1/(5-worth);", 0, 0, 1);
        order("yield 1/(worth-4)+1;", 1, 2, 1);
        order("yield 0-1/(worth-4);", 0, 0, 1);
        order("yield 0-1/(guns-1);", 1, 0, 1);
        order("yield 1/(guns-3)+1;", 1, 2, 1);
        order("yield 0,1/(guns-3)+1;", 1, 2, 1);
        order("yield 0,0,1/(guns-2)+2;", 1, 0, 1);
    }

    private static void setRefused() {
        Checks.of(14, "false: no such ones");
        Checks.Call set = (x, a) -> x.set(a[0], a[1]) ? YES : NO;
        Checks.refusedBeside(Checks.BUSY, "set", NO, set, new int[] {1, 5}, new int[][] {{0, 2}, {NONE, 60}});
        Checks.refusedBeside(Checks.FULL, "set", NO, set, new int[] {1, 5}, new int[][] {{0, 5}, {NONE, 60}});
        Checks.refused(Checks.NEW, "set", NO, set, 0, 0);
        Checks.refused(Checks.NEW, "set", NO, set, 0, NONE);
        Checks.refused(Checks.BUSY, "set", NO, set, 3, NONE);
    }

    private static void setTaken() {
        Checks.of(14, "a LORD's DAY to set out (0 .. 60, or NONE: none)");
        LordsRoad x = Checks.chain(8);
        for (int k = 0; k < 6; k++) {
            Checks.plainLord(x, 1, k, 1);
        }
        for (int day = NONE; day <= 60; day++) {
            int lord = (day + 1) % 6;
            Checks.due("set(" + lord + ", " + day + ")", x.set(lord, day), true);
            Checks.due("row(" + (1 + lord) + ")", x.row(1 + lord), day);
            Checks.due("arrives", x.end(lord, 0), day);
        }
        Checks.of(14, "out of his WINDOW, and for one who doesn't ATTEND, too");
        x.window(0, 3, 4, 30);
        Checks.due("ahead of it", x.set(0, 2), true);
        Checks.due("he arrives", x.end(0, 0), 2);
        Checks.due("behind it", x.set(0, 5), true);
        Checks.due("he arrives", x.end(0, 0), 5);
        Checks.tell(x, "attend 0;");
        Checks.due("who attends not", x.set(0, 6), true);
        Checks.due("has it", x.row(1), 6);
        Checks.due("and no RUN", x.end(0, 0), NONE);
        x.edicts(0);
        Checks.due("till he attends", x.end(0, 0), 6);
    }
}
