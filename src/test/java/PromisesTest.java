import java.nio.ByteBuffer;
import java.nio.charset.StandardCharsets;
import java.util.NoSuchElementException;

/** Each promise of the document with answers worked out by hand from its words. */
public final class PromisesTest {
    private static final int NONE = LordsRoad.NONE;
    private static final int BAD_INDEX = -100;
    private static final int NO_ELEMENT = -101;
    private static int wrong = 0;
    private static int checks = 0;

    public static void main(String[] args) {
        newObject();
        feed();
        edicts();
        faultsOfTokens();
        faultsOfTooMuch();
        faultsOfLines();
        year();
        station();
        height();
        between();
        lord();
        papers();
        window();
        wants();
        values();
        ahead();
        set();
        bearers();
        yields();
        lodgers();
        gates();
        floods();
        neverArrives();
        plan();
        bounds();
        anew();
        known();
        lookAndCount();
        textBehindText();
        runBehindRun();
        fullRoad();
        System.out.println(checks + " checks, " + wrong + " wrong");
        if (wrong != 0) {
            System.exit(1);
        }
    }

    private static void due(String what, int got, int want) {
        checks++;
        if (got != want) {
            wrong++;
            System.out.println(what + " answered " + got + ", due is " + want);
        }
    }

    private static void due(String what, boolean got, boolean want) {
        due(what, got ? 1 : 0, want ? 1 : 0);
    }

    private static void put(LordsRoad x, byte[] bytes) {
        ByteBuffer padded = ByteBuffer.allocate((bytes.length + 19) / 20 * 20);
        padded.put(bytes);
        padded.rewind();
        while (padded.remaining() > 0) {
            x.feed(padded.getInt(), padded.getInt(), padded.getInt(), padded.getInt(), padded.getInt());
        }
    }

    private static int tell(LordsRoad x, String text) {
        byte[] bytes = text.getBytes(StandardCharsets.ISO_8859_1);
        put(x, bytes);
        return x.edicts(bytes.length);
    }

    private static int look(LordsRoad x, int station, int what) {
        try {
            return x.look(station, what);
        } catch (IndexOutOfBoundsException e) {
            return BAD_INDEX;
        } catch (NoSuchElementException e) {
            return NO_ELEMENT;
        }
    }

    private static void fails(String text, int fault, int place) {
        LordsRoad x = new LordsRoad();
        tell(x, "room 7+rank;");
        due("edicts of " + text, tell(x, text), NONE);
        due("fault(0) of " + text, x.fault(0), fault);
        due("fault(1) of " + text, x.fault(1), place);
        due("knots kept behind " + text, x.count(7), 3);
    }

    private static void reads(String text, int lines, int knots) {
        LordsRoad x = new LordsRoad();
        due("edicts of " + text, tell(x, text), lines);
        due("fault(0) of " + text, x.fault(0), 0);
        due("fault(1) of " + text, x.fault(1), NONE);
        due("knots of " + text, x.count(7), knots);
    }

    /** Stations 1, 2, 3 one behind the other, so many hours each, one house, full duty, shut at 50. */
    private static LordsRoad chain(int hours) {
        LordsRoad x = new LordsRoad();
        for (int k = 0; k < 3; k++) {
            x.station(k, hours, 1, 999, 50, false);
        }
        return x;
    }

    private static void newObject() {
        LordsRoad x = new LordsRoad();
        int[] counts = {1, 0, 0, 8, 24, 3, 2, 0, NONE};
        for (int what = 0; what < counts.length; what++) {
            due("new: count(" + what + ")", x.count(what), counts[what]);
        }
        due("new: count(-1)", x.count(-1), NONE);
        due("new: fault(0)", x.fault(0), 0);
        due("new: fault(1)", x.fault(1), NONE);
        due("new: fault(2)", x.fault(2), NONE);
        due("new: fault(-1)", x.fault(-1), NONE);
        due("new: row(0)", x.row(0), 0);
        due("new: row(1)", x.row(1), NONE);
        due("new: edicts(1), the tape is empty", x.edicts(1), -2);
        due("new: judge(0)", x.judge(0), 0);
        due("new: judge(1)", x.judge(1), 0);
        due("new: judge(2)", x.judge(2), 0);
        due("new: judge(3)", x.judge(3), NONE);
        due("new: judge(4)", x.judge(4), NONE);
        due("new: wants(0, 0, 0)", x.wants(0, 0, 0), NONE);
        due("new: plan()", x.plan(), 0);
        due("new: anew(0)", x.anew(0), 0);
        due("new: one empty row", x.row(0), 1);
    }

    private static void feed() {
        LordsRoad x = new LordsRoad();
        // "pay " "70;h" "old " "9;  " "    ": the highest byte of each number comes first
        due("feed", x.feed(0x70617920, 0x37303b68, 0x6f6c6420, 0x393b2020, 0x20202020), 20);
        due("edicts of feed", x.edicts(20), 2);
        due("pay of feed", x.count(6), 70);
        due("hold of feed", x.count(5), 9);
        for (int k = 1; k <= 30; k++) {
            due("feed " + k, x.feed(0x20202020, 0x20202020, 0x0a0a0a0a, 0x20202020, 0x20202020), 20 * k);
        }
        due("feed beyond 600", x.feed(0, 0, 0, 0, 0), NONE);
        due("none came", x.edicts(601), -2);
        due("600 blanks", x.edicts(600), 0);
        due("the tape is empty then", x.edicts(1), -2);
        x.feed(-1, -1, -1, -1, -1);
        due("bytes of 255", x.edicts(4), NONE);
        due("place of a byte of 255", x.fault(1), 0);
    }

    private static void edicts() {
        LordsRoad x = new LordsRoad();
        due("nine lines", tell(x, "march 24; news 1; hold 9; pay 0; attend 1; bearers 2; room 3; fine 4; yield 5;"), 9);
        due("march", x.count(3), 24);
        due("news", x.count(4), 1);
        due("hold", x.count(5), 9);
        due("pay", x.count(6), 0);
        due("knots", x.count(7), 5);
        put(x, "pay 44;".getBytes(StandardCharsets.ISO_8859_1));
        due("more than there are", x.edicts(21), -2);
        due("below 0", x.edicts(-1), -2);
        due("the tape stayed", x.edicts(7), 1);
        due("pay told", x.count(6), 44);
        due("march is 8 again", x.count(3), 8);
        due("news is 24 again", x.count(4), 24);
        due("hold is 3 again", x.count(5), 3);
        due("no knots again", x.count(7), 0);
        due("the rest of the tape is gone", x.edicts(1), -2);
        due("a fault", tell(x, "pay 1; pay 2;"), NONE);
        due("the edicts stay as they were", x.count(6), 44);
        due("-2 leaves the fault", x.edicts(9), -2);
        due("its fault yet", x.fault(0), 3);
        due("its place yet", x.fault(1), 7);
        due("a fault empties the tape", x.edicts(1), -2);
        due("no text", x.edicts(0), 0);
        due("no fault", x.fault(0), 0);
        due("pay is 2 again", x.count(6), 2);
        put(x, "pay 1; pay 2;".getBytes(StandardCharsets.ISO_8859_1));
        due("the first n bytes alone", x.edicts(6), 1);
        put(x, "room 1<=2;".getBytes(StandardCharsets.ISO_8859_1));
        due("a sign cut in two", x.edicts(7), NONE);
        due("a sign cut in two: place", x.fault(1), 7);
    }

    private static void faultsOfTokens() {
        fails("March 8;", 1, 0);
        fails("march\t8;", 1, 5);
        fails("march 8\r;", 1, 7);
        fails("marches 8;", 1, 0);
        fails("mar 8;", 1, 0);
        fails("roomz 1;", 1, 0);
        fails(";", 1, 0);
        fails("march 8;;", 1, 8);
        fails("march;", 1, 5);
        fails("march -1;", 1, 6);
        fails("march rank;", 1, 6);
        fails("march late;", 1, 6);
        fails("march 8 9;", 1, 8);
        fails("march 8", 1, 7);
        fails("march 8  \n", 1, 10);
        fails("march ", 1, 6);
        fails("room 1", 1, 6);
        fails("room ", 1, 5);
        fails("room (1", 1, 7);
        fails("room (1;", 1, 7);
        fails("room 1);", 1, 6);
        fails("room ();", 1, 6);
        fails("room 1,2;", 1, 6);
        fails("yield (1,2);", 1, 8);
        fails("room 1 2;", 1, 7);
        fails("room 1 late;", 1, 7);
        fails("room 1 not 2;", 1, 7);
        fails("room 1+not 2;", 1, 7);
        fails("room -not 2;", 1, 6);
        fails("room 1<not 2;", 1, 7);
        fails("room +1;", 1, 5);
        fails("room 1+;", 1, 7);
        fails("room and 1;", 1, 5);
        fails("room hold;", 1, 5);
        fails("room 1=2=3;", 1, 8);
        fails("room 1<2+3>4;", 1, 10);
        fails("room (1<2 and 3<4<5);", 1, 17);
        fails("room 1< =2;", 1, 8);
        fails("room 1=<2;", 1, 7);
        fails("room 1=>2;", 1, 7);
        fails("room 1><2;", 1, 7);
        fails("room 1<>=2;", 1, 8);
        fails("room 1!2;", 1, 6);
        fails("room rank2;", 1, 9);
        fails("yield ;", 1, 6);
        fails("yield 1,;", 1, 8);
        fails("yield 1,2,3,", 1, 12);
        fails("yield 1,2,3,);", 1, 12);
        fails("yield 1,2,3,hold;", 1, 12);
        reads("", 0, 0);
        reads(" \n ", 0, 0);
        reads("march8;pay0;", 2, 0);
        reads("march\n0008 ;", 1, 0);
        reads("room not not-- -1<(2>3)and 4or 5;", 1, 14);
        reads("room 1<2 and 3<4 or not 5<6;", 1, 12);
        reads("room (1<2)<3;", 1, 5);
        reads("room (1<2)+(3<4);", 1, 7);
        reads("room 1+(not 1);", 1, 4);
        reads("yield 1,(2),-3;", 1, 4);
        reads("room 1<=2;fine 1<>2;attend 1>=2;", 3, 9);
    }

    private static void faultsOfTooMuch() {
        fails("march 0;", 2, 6);
        fails("march 25;", 2, 6);
        fails("news 0;", 2, 5);
        fails("news 100;", 2, 5);
        fails("hold 0;", 2, 5);
        fails("hold 10;", 2, 5);
        fails("pay 100;", 2, 4);
        fails("pay 99999999999999999999999999999999999999;", 2, 4);
        fails("pay 4294967296;", 2, 4);
        fails("room 100000;", 2, 5);
        fails("room 1+4294967296;", 2, 7);
        fails("room ((((((((((1))))))))));", 2, 13);
        fails("room (1)+((((((((1)))))))+(((1;", 1, 30);
        fails("yield 1,2,3,4;", 2, 12);
        fails("yield 1,2,3,not 4;", 2, 12);
        fails("yield 1,2,3,-;", 2, 12);
        fails("yield 1,2,3,(;", 2, 12);
        fails("yield 1,2,3,late;", 2, 12);
        fails("yield 1,2,3,100000;", 2, 12);
        reads("room 99999;", 1, 1);
        reads("room ((((((((1))))))))+((((((((2))))))));", 1, 3);
        reads("room 000000000000099999;", 1, 1);
        String ninetyFive = "fine 1" + "+1".repeat(47);
        reads(ninetyFive + ";", 1, 95);
        reads("room -1" + "+1".repeat(47) + ";", 1, 96);
        fails(ninetyFive + "+1;", 2, ninetyFive.length() + 1);
        fails(ninetyFive + ";room -1;", 2, ninetyFive.length() + 7);
        fails(ninetyFive + ";room 1;attend (1;", 2, ninetyFive.length() + 16);
        fails(ninetyFive + ";room 1<2;", 2, ninetyFive.length() + 7);
        fails(ninetyFive + ";attend 1;room late;", 2, ninetyFive.length() + 15);
        fails(ninetyFive + ";attend 1;room );", 1, ninetyFive.length() + 15);
        reads(ninetyFive + ";room 1;march 5;", 3, 96);
        reads("room " + "-".repeat(95) + "1;", 1, 96);
        reads("room " + "not ".repeat(95) + "1;", 1, 96);
        fails("room " + "-".repeat(97) + "1;", 2, 101);
    }

    private static void faultsOfLines() {
        fails("hold 3; hold", 3, 8);
        fails("room 1;fine 1;room 100000;", 3, 14);
        fails("yield 1;\nyield 2;", 3, 9);
        fails("room late;", 4, 5);
        fails("attend 1+late;", 4, 9);
        fails("bearers (late;", 4, 9);
        fails("yield rank,late;", 4, 11);
        fails("room late", 4, 5);
        fails("fine late;room late;", 4, 15);
        reads("fine late+(late);", 1, 3);
    }

    private static void year() {
        LordsRoad x = chain(1);
        x.lord(1, 0, 0, 1, 0, 0);
        tell(x, "room year;");
        due("year(0)", x.year(0), true);
        due("year(9999)", x.year(9999), true);
        due("room by year", x.wants(0, 2, 0), 9999);
        due("year(10000)", x.year(10000), false);
        due("year(-1)", x.year(-1), false);
        due("the year stays", x.count(2), 9999);
    }

    private static void station() {
        LordsRoad x = new LordsRoad();
        int[][] bad = {{1, 1, 1, 0, 1}, {-1, 1, 1, 0, 1}, {0, 0, 1, 0, 1}, {0, 21, 1, 0, 1}, {0, 1, 0, 0, 1},
            {0, 1, 4, 0, 1}, {0, 1, 1, -1, 1}, {0, 1, 1, 1000, 1}, {0, 1, 1, 0, 0}, {0, 1, 1, 0, 101}};
        for (int[] b : bad) {
            due("a bad station", x.station(b[0], b[1], b[2], b[3], b[4], true), NONE);
        }
        due("none came", x.count(0), 1);
        due("the least", x.station(0, 1, 1, 0, 1, false), 1);
        due("the most", x.station(1, 20, 3, 999, 100, true), 2);
        for (int k = 3; k < 12; k++) {
            due("station " + k, x.station(0, 1, 1, 0, 1, false), k);
        }
        due("a thirteenth", x.station(0, 1, 1, 0, 1, false), NONE);
        due("twelve", x.count(0), 12);
    }

    private static void height() {
        LordsRoad x = new LordsRoad();
        x.station(0, 8, 1, 999, 50, false);
        x.station(0, 8, 1, 999, 100, false);
        x.lord(1, 0, 0, 1, 0, 0);
        x.lord(2, 0, 0, 1, 0, 0);
        x.set(0, 5);
        x.set(1, 5);
        due("of the city", x.height(0, 0, 1, 1), false);
        due("of no station", x.height(3, 0, 1, 1), false);
        due("of station -1", x.height(-1, 0, 1, 1), false);
        due("from -1", x.height(1, -1, 1, 60), false);
        due("to 100", x.height(1, 0, 100, 60), false);
        due("behind", x.height(1, 6, 5, 60), false);
        due("-1 high", x.height(1, 0, 99, -1), false);
        due("100 high", x.height(1, 0, 99, 100), false);
        due("nothing came", x.end(0, 0), 5);
        due("one less than shut", x.height(1, 0, 99, 49), true);
        due("open yet", x.end(0, 0), 5);
        due("shut at 50", x.height(1, 5, 5, 50), true);
        due("a day later", x.end(0, 0), 6);
        due("two days more", x.height(1, 6, 7, 99), true);
        due("till the eighth", x.end(0, 0), 8);
        due("down again", x.height(1, 6, 6, 0), true);
        due("as ahead", x.end(0, 0), 6);
        due("never shut", x.height(2, 0, 99, 99), true);
        due("goes through", x.end(1, 0), 5);
    }

    private static void between() {
        LordsRoad x = new LordsRoad();
        x.station(0, 3, 1, 0, 1, false);
        x.station(1, 5, 1, 0, 1, false);
        x.station(1, 7, 1, 0, 1, false);
        x.station(0, 11, 1, 0, 1, false);
        x.station(2, 13, 1, 0, 1, false);
        due("down one branch, up the other", x.between(5, 3), 25);
        due("and back", x.between(3, 5), 25);
        due("through the city", x.between(5, 4), 32);
        due("to the city", x.between(0, 5), 21);
        due("itself", x.between(4, 4), 0);
        due("the city itself", x.between(0, 0), 0);
        due("no a", x.between(6, 0), NONE);
        due("no b", x.between(0, -1), NONE);
    }

    private static void lord() {
        LordsRoad x = chain(1);
        int[][] bad = {{0, 0, 0, 1, 0, 0}, {4, 0, 0, 1, 0, 0}, {-1, 0, 0, 1, 0, 0}, {1, -1, 0, 1, 0, 0},
            {1, 10, 0, 1, 0, 0}, {1, 0, -1, 1, 0, 0}, {1, 0, 1000, 1, 0, 0}, {1, 0, 0, 0, 0, 0},
            {1, 0, 0, 1000, 0, 0}, {1, 0, 0, 1, -1, 0}, {1, 0, 0, 1, 100, 0}, {1, 0, 0, 1, 0, -1}, {1, 0, 0, 1, 0, 100}};
        for (int[] b : bad) {
            due("a bad lord", x.lord(b[0], b[1], b[2], b[3], b[4], b[5]), NONE);
        }
        due("none came", x.count(1), 0);
        due("the least", x.lord(1, 0, 0, 1, 0, 0), 0);
        due("the most", x.lord(3, 9, 999, 999, 99, 99), 1);
        for (int k = 2; k < 6; k++) {
            due("lord " + k, x.lord(2, 1, 1, 1, 1, 1), k);
        }
        due("a seventh", x.lord(1, 0, 0, 1, 0, 0), NONE);
        due("six", x.count(1), 6);
    }

    private static void papers() {
        LordsRoad x = new LordsRoad();
        x.station(0, 4, 1, 999, 100, true);
        x.station(1, 4, 1, 999, 100, false);
        x.lord(2, 0, 0, 1, 5, 7);
        x.set(0, 0);
        due("without papers", x.end(0, 0), 4);
        due("no lord", x.papers(1, 5, 7), false);
        due("lord -1", x.papers(-1, 5, 7), false);
        due("guns -1", x.papers(0, -1, 7), false);
        due("guns 100", x.papers(0, 100, 7), false);
        due("women -1", x.papers(0, 5, -1), false);
        due("women 100", x.papers(0, 5, 100), false);
        due("as ahead", x.end(0, 0), 4);
        due("for guns alone", x.papers(0, 99, 6), true);
        due("held for women", x.end(0, 0), 4);
        due("for women alone", x.papers(0, 4, 99), true);
        due("held for guns", x.end(0, 0), 4);
        due("for all", x.papers(0, 5, 7), true);
        due("goes through", x.end(0, 0), 0);
        due("none again", x.papers(0, 0, 0), true);
        due("held again", x.end(0, 0), 4);
    }

    private static void window() {
        LordsRoad x = chain(8);
        x.lord(3, 0, 0, 1, 0, 0);
        x.plan();
        due("eleven days at first", x.row(0), 11);
        x.set(0, 29);
        due("due on 30 at first, arrives on 31", x.end(0, 1), 1);
        due("no lord", x.window(1, 0, 0, 0), false);
        due("from -1", x.window(0, -1, 0, 0), false);
        due("to 61", x.window(0, 0, 61, 0), false);
        due("behind", x.window(0, 2, 1, 0), false);
        due("due -1", x.window(0, 0, 0, -1), false);
        due("due 100", x.window(0, 0, 0, 100), false);
        due("as ahead", x.end(0, 1), 1);
        due("the most", x.window(0, 60, 60, 99), true);
        due("not late", x.end(0, 1), 0);
        due("sixty", x.plan(), 0);
        due("on sixty", x.row(1), 60);
        due("all days", x.window(0, 0, 60, 0), true);
        due("late by all", x.end(0, 1), 62);
        x.plan();
        due("61 rows", x.row(0), 61);
    }

    private static void wants() {
        LordsRoad x = chain(7);
        x.lord(3, 4, 30, 259, 6, 8);
        x.lord(2, 5, 31, 9, 0, 0);
        int[] plain = {1, 25, 10, 0};
        for (int what = 0; what < 4; what++) {
            due("without a line, " + what, x.wants(0, what, 100), plain[what]);
        }
        due("men / 10 of nine", x.wants(1, 1, 0), 0);
        due("no what", x.wants(0, 4, 0), NONE);
        due("what -1", x.wants(0, -1, 0), NONE);
        due("no lord", x.wants(2, 0, 0), NONE);
        due("lord -1", x.wants(-1, 0, 0), NONE);
        due("late -1", x.wants(0, 3, -1), NONE);
        due("late 101", x.wants(0, 3, 101), NONE);
        due("late 0", x.wants(0, 3, 0), 0);
        x.year(50);
        tell(x, "attend rank=4; bearers hours*100+guns; room worth*10+women+house; fine late*90+year;");
        due("attends", x.wants(0, 0, 0), 1);
        due("attends not", x.wants(1, 0, 0), 0);
        due("hours, guns", x.wants(0, 1, 0), 2106);
        due("worth, women, house", x.wants(0, 2, 0), 308);
        due("house is its number", x.wants(1, 2, 0), 311);
        due("late, year", x.wants(0, 3, 1), 140);
        due("late 100", x.wants(0, 3, 100), 9050);
        tell(x, "bearers 0-1; room 9999+1; attend 0-5; fine 0-late;");
        due("0 at least", x.wants(0, 1, 0), 0);
        due("9999 at most", x.wants(0, 2, 0), 9999);
        due("what is not 0 attends", x.wants(0, 0, 0), 1);
        due("a fine of 0 at least", x.wants(0, 3, 9), 0);
    }

    /** The value of an expression told as a room for a lord of rank 4. */
    private static void worth(String expression, int want) {
        LordsRoad x = chain(7);
        x.lord(3, 4, 30, 259, 6, 8);
        due("a line of " + expression, tell(x, "room " + expression + ";"), 1);
        due(expression, x.wants(0, 2, 0), want);
    }

    private static void values() {
        worth("2+3*4", 14);
        worth("(2+3)*4", 20);
        worth("20-5-3", 12);
        worth("100/7/2", 7);
        worth("100%7*3", 6);
        worth("10+-7/2", 7);
        worth("10+-7%2", 9);
        worth("10+7%-2", 11);
        worth("10+(-7)/(-2)", 13);
        worth("--5", 5);
        worth("9- -5", 14);
        worth("2*-3+10", 4);
        worth("not 0", 1);
        worth("not 7", 0);
        worth("not not 7", 1);
        worth("not 1=2", 1);
        worth("not 0 and 0", 0);
        worth("0 and 0 or 1", 1);
        worth("1 or 0 and 0", 1);
        worth("(1 or 0) and 0", 0);
        worth("5 and -3", 1);
        worth("0 or -3", 1);
        worth("1+1=2 and 3", 1);
        worth("3<4", 1);
        worth("4<4", 0);
        worth("4<=4", 1);
        worth("5<=4", 0);
        worth("4=4", 1);
        worth("4=5", 0);
        worth("4<>5", 1);
        worth("4<>4", 0);
        worth("4>=4", 1);
        worth("3>=4", 0);
        worth("5>4", 1);
        worth("4>4", 0);
        worth("1/0", 0);
        worth("5+1/0", 0);
        worth("5+1%0", 0);
        worth("(1/0)+5", 0);
        worth("1 or 1/0", 0);
        worth("not (0 and 1/0)", 0);
        worth("1000*1000*1000*1000/1000/1000/1000", 1000);
        worth("(1000*1000*1000*1000+1)/1000/1000/1000", 0);
        worth("(1000*1000*1000*999+1000*1000*1000)/1000/1000/1000", 1000);
        worth("5+(0-1000*1000*1000*1000)/1000/1000/1000+1000", 5);
        worth("5+(-1000*1000*1000*1000)/1000/1000/1000+1000", 5);
        worth("5+0*(0-1000*1000*1000*1000-1)", 0);
        worth("5+0*(99999*99999*99999)", 0);
        worth("5+0*(99999*99999*99)", 5);
        worth("5+0*(99999*99999*99999*99999*0)", 0);
        worth("5+0*(99999*99999*(99999*99999))", 0);
        worth("99999*99999<99999*99999+1", 1);
    }

    private static void ahead() {
        LordsRoad x = chain(1);
        x.lord(1, 3, 10, 1, 0, 0);
        x.lord(1, 2, 10, 5, 0, 0);
        x.lord(1, 3, 20, 9, 0, 0);
        due("lesser rank", x.ahead(0, 1), 1);
        due("lesser rank, asked about it", x.ahead(1, 0), 1);
        due("lesser number", x.ahead(2, 0), 0);
        due("itself", x.ahead(1, 1), NONE);
        due("no lord", x.ahead(0, 3), NONE);
        due("lord -1", x.ahead(-1, 0), NONE);
        tell(x, "yield 0-worth;room 5;");
        due("greater worth", x.ahead(0, 2), 2);
        due("like worth", x.ahead(1, 0), 0);
        tell(x, "yield 0-worth,rank;room 5;");
        due("the second", x.ahead(1, 0), 1);
        due("the first goes before the second", x.ahead(1, 2), 2);
        tell(x, "yield 1,1/0,0-men;");
        due("the third, and an error is 0", x.ahead(0, 2), 2);
        tell(x, "yield 1,1,0-men;");
        tell(x, "yield 1,worth,rank;");
        due("the second alone differs for 2", x.ahead(2, 1), 1);
        due("the third", x.ahead(0, 1), 1);
        tell(x, "yield rank;");
        due("one alone again", x.ahead(2, 0), 0);
        tell(x, "room 1;");
        due("and without a line", x.ahead(2, 0), 0);
    }

    private static void set() {
        LordsRoad x = chain(8);
        x.lord(3, 0, 0, 1, 0, 0);
        due("none at first", x.row(1), NONE);
        due("no run", x.end(0, 0), NONE);
        due("set 60", x.set(0, 60), true);
        due("row", x.row(1), 60);
        due("arrives", x.end(0, 0), 62);
        due("set 61", x.set(0, 61), false);
        due("set -2", x.set(0, -2), false);
        due("no lord", x.set(1, 0), false);
        due("lord -1", x.set(-1, 0), false);
        due("row yet", x.row(1), 60);
        due("set none", x.set(0, NONE), true);
        due("row none", x.row(1), NONE);
        due("no run again", x.end(0, 4), NONE);
        due("no such lord's row", x.row(2), NONE);
        due("row(7)", x.row(7), NONE);
        due("row(-1)", x.row(-1), NONE);
    }

    private static void bearers() {
        LordsRoad x = new LordsRoad();
        x.station(0, 4, 1, 5, 100, false);
        x.station(1, 4, 1, 3, 100, false);
        x.lord(2, 0, 0, 100, 0, 0);
        x.lord(2, 1, 0, 40, 0, 0);
        x.set(0, 0);
        x.set(1, 0);
        due("7 and 5 hired", x.end(0, 5), 12);
        due("for two coins each", x.end(0, 4), 24);
        due("nothing is left for the second", x.end(1, 5), 8);
        due("of all", x.judge(1), 40);
        x.set(1, 0);
        due("given on way 2", x.given(2, 0), 3);
        due("given on way 1", x.given(1, 0), 5);
        x.set(1, 1);
        due("another day, another duty", x.end(1, 5), 1);
        due("given on way 2 in all", x.given(2, 0), 6);
        due("given on way 2 on a day", x.given(2, 1), 3);
        due("given on way 1 in all", x.given(1, 0), 9);
        due("given on way 1 on a day", x.given(1, 1), 5);
        due("both arrive", x.judge(2), 2);
        due("the last on 1", x.judge(3), 1);
        due("no third what", x.given(1, 2), NONE);
        due("what -1", x.given(1, -1), NONE);
        due("the city", x.given(0, 0), NONE);
        due("no station", x.given(3, 0), NONE);
        tell(x, "pay 99;");
        due("pay 99", x.end(0, 4), 12 * 99);
        tell(x, "bearers 2;");
        x.set(1, 0);
        due("two and two of five", x.given(1, 0), 4);
        due("on one day", x.given(1, 1), 4);
        due("two and one of three", x.given(2, 1), 3);
        due("one hired", x.end(1, 5), 1);
        x.set(1, 1);
        tell(x, "pay 0;attend house=1;");
        due("pay 0", x.end(1, 4), 0);
        due("who attends not has no run", x.end(0, 5), NONE);
        due("and takes no bearers", x.given(2, 0), 3);
        due("one arrives", x.judge(2), 1);
        due("his day stays", x.row(1), 0);
    }

    private static void yields() {
        LordsRoad x = chain(8);
        x.lord(3, 1, 0, 1, 0, 0);
        x.lord(3, 0, 0, 1, 0, 0);
        x.set(0, 0);
        x.set(1, 0);
        int[][] nights = {{3, 2}, {2, 1}, {1, 0}, {0, 0}};
        int[][] costs = {{0, 10}, {10, 20}, {20, 20}, {20, 20}};
        for (int day = 0; day < 4; day++) {
            for (int lord = 0; lord < 2; lord++) {
                due("yields: night " + day + " of " + lord, x.night(lord, day, 0), nights[day][lord]);
                due("yields: cost by night " + day + " of " + lord, x.night(lord, day, 4), costs[day][lord]);
            }
        }
        due("he yields on day 0", x.night(0, 0, 2), 1);
        due("and no more", x.night(0, 99, 2), 1);
        due("the other never", x.night(1, 99, 2), 0);
        due("all yields", x.judge(0), 1);
        due("at home", x.night(0, 0, 1), 0);
        due("on the way", x.night(0, 1, 1), 1);
        due("in the city", x.night(0, 3, 1), 2);
        due("for ever", x.night(0, 99, 1), 2);
        due("no excuse in a full house", x.end(0, 2), 0);
        due("day 100", x.night(0, 100, 0), NONE);
        due("day -1", x.night(0, -1, 0), NONE);
        due("what 5", x.night(0, 0, 5), NONE);
        due("what -1", x.night(0, 0, -1), NONE);
        due("no lord", x.night(2, 0, 0), NONE);
        due("no end of no lord", x.end(2, 0), NONE);
        due("end what 6", x.end(0, 6), NONE);
        due("end what -1", x.end(0, -1), NONE);
        x.set(0, NONE);
        for (int what = 0; what < 5; what++) {
            due("without a run, " + what, x.night(0, 50, what), what == 0 ? 3 : 0);
        }
        x.set(1, 5);
        due("at home up to the night before", x.night(1, 4, 0), 3);
        due("sets out on the day", x.night(1, 5, 0), 2);
    }

    private static void lodgers() {
        LordsRoad x = chain(8);
        x.lord(3, 1, 0, 1, 0, 0);
        x.lord(3, 0, 0, 1, 0, 0);
        x.set(0, 0);
        x.set(1, 1);
        due("the one ahead of all finds the house taken", x.night(1, 1, 0), 3);
        due("he yields to who was not asked yet", x.night(1, 1, 2), 1);
        due("a day later he is there", x.night(1, 2, 0), 2);
        x.set(0, 1);
        x.set(1, 0);
        due("the house is free when the other goes first", x.judge(0), 0);

        LordsRoad near = new LordsRoad();
        near.station(0, 8, 1, 999, 100, false);
        near.station(1, 4, 1, 999, 100, false);
        near.station(2, 4, 2, 999, 100, false);
        near.lord(3, 0, 0, 1, 0, 0);
        near.lord(3, 1, 0, 1, 0, 0);
        near.lord(3, 2, 0, 1, 0, 0);
        for (int k = 0; k < 3; k++) {
            near.set(k, 0);
        }
        due("the farthest house", near.night(0, 0, 0), 1);
        due("a nearer one", near.night(1, 0, 0), 2);
        due("none, so at home", near.night(2, 0, 0), 3);
        due("the last yields again on day 1", near.night(2, 1, 2), 2);
        due("three in all", near.judge(0), 3);
        due("once for the day, though two houses are full", near.night(2, 0, 2), 1);

        LordsRoad two = new LordsRoad();
        two.station(0, 8, 2, 999, 100, false);
        two.station(1, 8, 1, 999, 100, false);
        for (int k = 0; k < 3; k++) {
            two.lord(2, k, 0, 1, 0, 0);
            two.set(k, 0);
        }
        due("two houses take two", two.judge(0), 1);
        due("the third yields", two.night(2, 0, 2), 1);

        LordsRoad home = chain(8);
        home.lord(3, 1, 0, 1, 0, 0);
        home.lord(2, 0, 0, 1, 0, 0);
        home.set(0, 0);
        home.set(1, 9);
        due("a lord at home takes no house", home.night(0, 0, 0), 2);
        home.set(1, 0);
        home.height(2, 0, 0, 50);
        due("nor one who can't leave it", home.night(0, 0, 0), 2);
        due("and he pays no room there", home.night(1, 0, 4), 0);
    }

    private static void gates() {
        LordsRoad x = new LordsRoad();
        x.station(0, 2, 1, 999, 100, true);
        x.station(1, 2, 1, 999, 100, true);
        x.station(2, 2, 1, 999, 100, true);
        x.lord(3, 0, 0, 1, 1, 0);
        tell(x, "march 24; hold 2;");
        x.set(0, 0);
        int[] places = {2, 2, 2, 1, 1, 1, 0};
        int[] held = {2, 1, 0, 2, 1, 0, 0};
        for (int day = 0; day < places.length; day++) {
            due("gates: night " + day, x.night(0, day, 0), places[day]);
            due("gates: held in night " + day, x.night(0, day, 3), held[day]);
        }
        due("six rooms", x.end(0, 4), 60);
        due("no day of it is excused", x.end(0, 2), 0);
        due("held is no yielding", x.judge(0), 0);
        x.height(2, 0, 99, 99);
        due("100 is never shut, held or not", x.end(0, 0), 6);

        LordsRoad full = new LordsRoad();
        full.station(0, 8, 1, 999, 50, true);
        full.station(1, 8, 1, 999, 100, false);
        full.lord(2, 0, 0, 1, 0, 9);
        full.lord(2, 1, 0, 1, 0, 0);
        full.set(0, 0);
        full.set(1, 1);
        due("who is held keeps his house", full.night(1, 3, 2), 3);
        due("four days", full.night(1, 4, 0), 1);
        full.height(1, 2, 5, 60);
        due("a shut way excuses only who is not held", full.end(0, 2), 2);
        due("behind the flood", full.end(0, 0), 6);
    }

    private static void floods() {
        LordsRoad x = chain(8);
        x.lord(3, 0, 0, 1, 0, 0);
        x.set(0, 0);
        x.height(2, 1, 3, 50);
        due("arrives on 5", x.end(0, 0), 5);
        due("three days excused", x.end(0, 2), 3);
        due("five rooms", x.end(0, 4), 50);
        x.window(0, 0, 10, 2);
        due("three late, three excused", x.end(0, 1), 0);
        x.window(0, 0, 10, 1);
        due("four late, three excused", x.end(0, 1), 1);
        x.window(0, 0, 10, 4);
        due("never less than 0", x.end(0, 1), 0);
        tell(x, "fine late*100+1; room 7;");
        x.window(0, 0, 10, 0);
        due("a fine of two days", x.end(0, 3), 201);
        due("with five rooms", x.end(0, 4), 236);
        due("no fine in the nights", x.night(0, 99, 4), 35);
        due("judged with it", x.judge(1), 236);
        x.height(2, 0, 99, 0);
        x.height(3, 0, 1, 99);
        due("at home, too, a day is excused", x.end(0, 2), 2);
        due("but not a day before he sets out", x.set(0, 1), true);
        due("one", x.end(0, 2), 1);
        tell(x, "march 24;");
        x.height(3, 0, 99, 0);
        x.set(0, 0);
        x.height(1, 0, 1, 50);
        due("up to the shut way", x.night(0, 0, 0), 1);
        due("he went, so the first is not excused", x.end(0, 2), 1);
        due("not a yield", x.judge(0), 0);
        due("on 2", x.end(0, 0), 2);
    }

    private static void neverArrives() {
        LordsRoad x = chain(8);
        x.lord(3, 0, 0, 1, 0, 0);
        x.set(0, 60);
        x.height(1, 0, 99, 99);
        tell(x, "march 24; fine late*2;");
        due("never", x.end(0, 0), NONE);
        due("39 excused", x.end(0, 2), 39);
        due("late", x.end(0, 1), 61);
        due("fine", x.end(0, 3), 122);
        due("forty rooms", x.end(0, 4), 522);
        due("none arrives", x.judge(2), 0);
        due("no last", x.judge(3), NONE);
        x.height(1, 99, 99, 0);
        due("on the last day", x.end(0, 0), 99);
        due("is the last", x.judge(3), 99);
    }

    private static void plan() {
        LordsRoad x = new LordsRoad();
        x.station(0, 8, 1, 10, 100, false);
        x.station(0, 8, 1, 0, 100, false);
        x.lord(1, 5, 0, 100, 0, 0);
        x.lord(1, 0, 0, 100, 0, 0);
        x.lord(2, 0, 0, 9, 0, 0);
        x.window(0, 3, 5, 30);
        x.window(1, 3, 5, 30);
        x.window(2, 7, 9, 30);
        due("plan", x.plan(), 0);
        due("27 rows", x.row(0), 27);
        due("least cost, the first by days: lord 0", x.row(1), 3);
        due("lord 1 has bearers a day later", x.row(2), 4);
        due("lord 2", x.row(3), 7);
        due("no hired ones", x.judge(1), 0);
        tell(x, "attend house<>1;");
        x.set(0, 60);
        due("plan of two", x.plan(), 0);
        due("nine rows", x.row(0), 9);
        due("who attends not has none", x.row(2), NONE);
        due("lord 0 in his window", x.row(1), 3);
        LordsRoad y = chain(8);
        y.lord(3, 1, 0, 1, 0, 0);
        y.lord(3, 0, 0, 1, 0, 0);
        y.window(0, 0, 0, 30);
        y.window(1, 0, 1, 30);
        due("yields before cost: one in any row", y.plan(), 1);
        due("the first of like rows", y.row(2), 0);
        tell(y, "fine late*100;");
        y.window(0, 0, 1, 0);
        y.window(1, 0, 1, 0);
        due("no yield is worth a fine", y.plan(), 0);
        due("lord 0 waits", y.row(1), 1);
        due("lord 1 goes", y.row(2), 0);
        planByFine();
    }

    private static void planByFine() {
        LordsRoad x = chain(8);
        x.lord(3, 0, 0, 1, 0, 0);
        x.window(0, 0, 3, 0);
        tell(x, "fine 100-late;");
        due("plan by fine", x.plan(), 0);
        due("the fine decides", x.row(1), 3);
        due("judged", x.judge(1), 115);
    }

    private static void bounds() {
        LordsRoad x = chain(1);
        x.lord(1, 0, 0, 1, 0, 0);
        x.lord(2, 0, 0, 1, 0, 0);
        x.window(0, 0, 49, 99);
        x.window(1, 0, 39, 99);
        due("2000 looks", x.plan(), 0);
        due("are not too many", x.row(0), 2000);
        due("row", x.row(1), 0);
        x.set(0, 17);
        x.set(1, NONE);
        x.window(1, 0, 40, 99);
        due("2050 looks", x.plan(), NONE);
        due("are counted as 2000", x.row(0), 2000);
        due("nothing happens", x.row(1), 17);
        due("nothing at all", x.row(2), NONE);
        due("anew is spent, too", x.anew(0), NONE);
        due("2000 again", x.row(0), 2000);
        due("its row stays", x.row(1), 17);
        x.lord(3, 0, 0, 1, 0, 0);
        x.window(2, 0, 0, 99);
        due("no row at all", x.anew(1), NONE);
        due("is no look, however many the others have", x.row(0), 0);
    }

    private static void anew() {
        LordsRoad x = chain(8);
        x.lord(3, 1, 0, 1, 0, 0);
        x.lord(3, 0, 0, 1, 0, 0);
        x.window(0, 0, 5, 30);
        x.window(1, 0, 5, 30);
        x.set(0, 3);
        x.set(1, 3);
        due("none has to move", x.anew(2), 0);
        due("sixteen rows", x.row(0), 16);
        due("lord 0 stays, though he yields", x.row(1), 3);
        due("lord 1 stays", x.row(2), 3);
        x.window(1, 2, 4, 30);
        x.set(1, 6);
        due("one moves", x.anew(3), 1);
        due("six rows", x.row(0), 6);
        due("the other stays", x.row(1), 3);
        due("one yields on 3 and on 4: the first by days", x.row(2), 3);
        x.set(1, NONE);
        due("who had none moves", x.anew(3), 1);
        x.set(0, 1);
        x.set(1, 0);
        x.window(0, 4, 5, 30);
        due("a day gone by stays", x.anew(2), 0);
        due("out of his window", x.row(1), 1);
        due("one row", x.row(0), 1);
        due("from his very day on he has to", x.anew(1), 1);
        due("two rows", x.row(0), 2);
        due("into his window", x.row(1), 4);
        x.set(0, NONE);
        due("no row", x.anew(6), NONE);
        due("no looks", x.row(0), 0);
        due("nothing happened", x.row(2), 0);
        due("no day -1", x.anew(-1), NONE);
        due("no day 100", x.anew(100), NONE);
        x.set(0, 5);
        due("day 99", x.anew(99), 0);
        tell(x, "attend house=1;");
        due("who attends not does not count", x.anew(99), 0);
        due("and has none", x.row(1), NONE);
        anewByYieldsAndCost();
    }

    private static void anewByYieldsAndCost() {
        LordsRoad x = chain(8);
        x.lord(3, 1, 0, 1, 0, 0);
        x.lord(3, 0, 0, 1, 0, 0);
        x.window(0, 0, 5, 30);
        x.window(1, 0, 5, 30);
        x.set(0, 2);
        due("set out anew", x.anew(2), 1);
        due("2 makes lord 0 yield, 3 lord 1: 4 is free", x.row(2), 4);
        due("no yields", x.judge(0), 0);
        tell(x, "fine late*10;");
        x.window(1, 0, 5, 0);
        x.set(1, NONE);
        x.set(0, 5);
        due("anew by cost", x.anew(2), 1);
        due("the least late", x.row(2), 2);
    }

    private static void known() {
        LordsRoad x = chain(8);
        x.lord(3, 0, 0, 1, 0, 0);
        tell(x, "news 8;");
        x.set(0, 2);
        int[] inCity = {NONE, NONE, NONE, 0, 4, 5};
        int[] whereInCity = {NONE, NONE, NONE, 3, 0, 0};
        int[] atHome = {0, 1, 1, 2, 2, 3, 3, 4, 5};
        int[] whereAtHome = {3, 3, 3, 2, 2, 1, 1, 0, 0};
        for (int day = 0; day < inCity.length; day++) {
            due("known in the city on " + day, x.known(0, 0, day, 0), inCity[day]);
            due("where, in the city on " + day, x.known(0, 0, day, 1), whereInCity[day]);
        }
        for (int day = 0; day < atHome.length; day++) {
            due("known at home on " + day, x.known(0, 3, day, 0), atHome[day]);
            due("where, at home on " + day, x.known(0, 3, day, 1), whereAtHome[day]);
        }
        tell(x, "news 7;");
        due("upwards: 24 hours are 4 days", x.known(0, 0, 3, 0), NONE);
        due("of night 4 on day 4", x.known(0, 0, 4, 0), 4);
        x.set(0, NONE);
        due("without a run", x.known(0, 0, 99, 0), 95);
        due("he is at home", x.known(0, 0, 99, 1), 3);
        due("known at home at once", x.known(0, 3, 99, 0), 99);
        due("what 2", x.known(0, 0, 0, 2), -2);
        due("what -1", x.known(0, 0, 0, -1), -2);
        due("day 100", x.known(0, 0, 100, 0), -2);
        due("day -1", x.known(0, 0, -1, 0), -2);
        due("no station", x.known(0, 4, 0, 0), -2);
        due("station -1", x.known(0, -1, 0, 0), -2);
        due("no lord", x.known(1, 0, 0, 0), -2);
        due("lord -1", x.known(-1, 0, 0, 0), -2);
    }

    private static void lookAndCount() {
        LordsRoad x = new LordsRoad();
        x.station(0, 2, 3, 4, 5, true);
        x.station(1, 6, 1, 7, 8, false);
        int[][] want = {{0, 0, 0, 0, 0, 0}, {0, 2, 3, 4, 5, 1}, {1, 6, 1, 7, 8, 0}};
        for (int station = 0; station < 3; station++) {
            for (int what = 0; what < 6; what++) {
                due("look(" + station + ", " + what + ")", look(x, station, what), want[station][what]);
            }
            due("look what 6", look(x, station, 6), NO_ELEMENT);
            due("look what -1", look(x, station, -1), NO_ELEMENT);
        }
        due("look(3, 0)", look(x, 3, 0), BAD_INDEX);
        due("look(-1, 0)", look(x, -1, 0), BAD_INDEX);
        due("look(3, 6)", look(x, 3, 6), BAD_INDEX);
        x.lord(1, 0, 0, 1, 0, 0);
        x.year(1701);
        tell(x, "march 1; news 99; hold 1; pay 99; room -1;");
        int[] counts = {3, 1, 1701, 1, 99, 1, 99, 2, NONE};
        for (int what = 0; what < counts.length; what++) {
            due("count(" + what + ")", x.count(what), counts[what]);
        }
    }

    /** Nothing of a text that was read, or failed, shows in the next one. */
    private static void textBehindText() {
        LordsRoad x = chain(7);
        x.lord(3, 4, 30, 259, 6, 8);
        String longest = "room 1" + "+1".repeat(47) + ";";
        for (int k = 0; k < 6; k++) {
            due("a long text again", tell(x, longest), 1);
            due("worked out whole", x.wants(0, 2, 0), 48);
        }
        tell(x, "fine 5;");
        tell(x, "attend 0;");
        tell(x, "march 3;");
        due("no fine again", x.wants(0, 3, 1), 0);
        due("attends again", x.wants(0, 0, 0), 1);
        due("a text that ends in a bracket", tell(x, "room 9*(8-(7+"), NONE);
        due("and a good one", tell(x, "room 2;"), 1);
        due("are nothing to one another", x.wants(0, 2, 0), 2);
        due("told in a bad text", tell(x, "pay 3; hold"), NONE);
        due("may be told in the next", tell(x, "hold 3; pay 3;"), 2);
    }

    /** Nothing of a run shows in the next one, and each change is seen by it. */
    private static void runBehindRun() {
        LordsRoad x = chain(8);
        x.lord(3, 0, 0, 1, 0, 0);
        tell(x, "fine year; attend year<5;");
        x.set(0, 0);
        due("arrives", x.end(0, 0), 2);
        x.year(4);
        due("the fine of year 4", x.end(0, 3), 4);
        x.year(5);
        due("attends no more", x.end(0, 0), NONE);
        x.year(0);
        due("attends again", x.judge(2), 1);
        x.lord(2, 0, 0, 1, 0, 0);
        due("a new lord is at home", x.night(1, 0, 0), 2);
        due("and known there", x.known(1, 2, 7, 1), 2);
        x.window(0, 4, 4, 30);
        x.window(1, 6, 6, 30);
        due("planned", x.plan(), 0);
        due("seen at once", x.end(0, 0), 6);
        due("of both", x.judge(3), 7);
        x.window(0, 7, 7, 30);
        x.anew(0);
        due("seen anew", x.end(0, 0), 9);
        x.window(1, 5, 5, 30);
        due("given, asked first behind a plan", x.plan() + x.given(3, 0), 0);
        x.station(3, 8, 1, 999, 50, true);
        due("nothing was given on a new way", x.given(4, 1), 0);

        LordsRoad held = new LordsRoad();
        held.station(0, 8, 1, 999, 100, true);
        held.station(1, 8, 1, 999, 50, false);
        held.lord(2, 0, 0, 10, 1, 0);
        held.set(0, 0);
        held.height(2, 0, 97, 50);
        due("held when the days end", held.night(0, 99, 3), 2);
        due("one bearer", held.given(2, 1), 1);
        held.height(2, 0, 99, 0);
        due("held anew", held.end(0, 0), 4);
        due("three days from day 0 on", held.night(0, 0, 3), 3);
        held.set(0, NONE);
        due("no bearer", held.given(2, 1), 0);
    }

    /** Twelve stations of an hour each, six lords, the last one ahead of all. */
    private static void fullRoad() {
        LordsRoad x = new LordsRoad();
        for (int k = 0; k < 11; k++) {
            x.station(k, 1, 1, 999, 50, false);
        }
        for (int k = 0; k < 6; k++) {
            due("lord " + k, x.lord(11, 9 - k, 0, 1, 0, 0), k);
            x.set(k, 0);
            x.window(k, 0, 1, 30);
        }
        for (int k = 0; k < 6; k++) {
            due("night of lord " + k, x.night(k, 0, 0), 8 - k);
            due("yields of lord " + k, x.night(k, 0, 2), k == 5 ? 0 : 1);
        }
        due("on day 1 all come to the city", x.judge(3), 1);
        due("six", x.judge(2), 6);
        tell(x, "march 24;");
        due("in one day", x.judge(3), 0);
        tell(x, "march 11;");
        due("the whole way in a day", x.judge(3), 0);
        tell(x, "march 8;yield house;");
        due("the first one ahead now", x.night(0, 0, 0), 3);
        due("the last one behind", x.night(5, 0, 0), 8);
        due("64 rows", x.plan() >= 0 ? x.row(0) : NONE, 64);
        due("best: each but one has to yield or to wait", x.judge(0), 4);
        int waits = x.row(1);
        x.set(0, NONE);
        due("one to set", x.anew(0), 1);
        due("the same as in the plan", x.row(1), waits);
        due("64 rows again", x.row(0), 64);
    }
}
