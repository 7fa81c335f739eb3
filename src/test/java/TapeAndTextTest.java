/** The boundaries of promises 1 to 4, and of the texts of part 3 of the document's terms. */
public final class TapeAndTextTest {
    private static final int NONE = Checks.NONE;
    private static final String[] LINES = {
        "march", "news", "hold", "pay", "attend", "bearers", "room", "fine", "yield"};
    private static final String[] NAMES = {"year", "rank", "worth", "men", "house", "hours", "guns", "women"};
    private static final String[] COMPARISONS = {"<", "<=", "=", "<>", ">=", ">"};
    private static final String[] SIGNS = {
        "+", "-", "*", "/", "%", "<", "<=", "=", "<>", ">=", ">", " and ", " or "};

    public static void main(String[] args) {
        aNewObject();
        objectsApart();
        bytesOfFeed();
        fullTape();
        lengthsOfEdicts();
        linesOfEdicts();
        tokensOfOneByte();
        bytesInAnExpression();
        wordsAndNumbers();
        signsOfTwo();
        whatCanStandWhere();
        moreMustCome();
        numbersOfLines();
        numbersInExpressions();
        brackets();
        knots();
        yieldsTooMany();
        toldAlready();
        lateElsewhere();
        firstAlongTheText();
        faultOfTheLatest();
        Checks.end();
    }

    private static void reads(String text, int lines) {
        LordsRoad x = new LordsRoad();
        Checks.due("edicts of " + text, Checks.tell(x, text), lines);
        Checks.due("fault(0) of " + text, x.fault(0), 0);
        Checks.due("fault(1) of " + text, x.fault(1), NONE);
    }

    private static void fails(String text, int fault, int place) {
        LordsRoad x = new LordsRoad();
        Checks.tell(x, "pay 7;");
        Checks.due("edicts of " + text, Checks.tell(x, text), NONE);
        Checks.due("fault(0) of " + text, x.fault(0), fault);
        Checks.due("fault(1) of " + text, x.fault(1), place);
        Checks.due("pay as ahead of " + text, x.count(6), 7);
    }

    private static void aNewObject() {
        Checks.of(1, "the CITY alone, no LORDS, no EDICTS, THE YEAR 0");
        LordsRoad x = new LordsRoad();
        int[] counts = {1, 0, 0, 8, 24, 3, 2, 0};
        for (int what = 0; what < counts.length; what++) {
            Checks.due("count(" + what + ")", x.count(what), counts[what]);
        }
        for (int what = 0; what < 6; what++) {
            Checks.due("look(0, " + what + ")", Checks.look(x, 0, what), 0);
        }
        Checks.due("look(1, 0)", Checks.look(x, 1, 0), Checks.BAD_INDEX);
        Checks.due("between(0, 0)", x.between(0, 0), 0);
        Checks.due("between(0, 1)", x.between(0, 1), NONE);
        Checks.due("between(1, 0)", x.between(1, 0), NONE);
        Checks.due("height(0, ..)", x.height(0, 0, 0, 0), false);
        Checks.due("height(1, ..)", x.height(1, 0, 0, 0), false);
        Checks.due("given(0, 0)", x.given(0, 0), NONE);
        Checks.due("given(1, 0)", x.given(1, 0), NONE);
        Checks.due("lord in the city", x.lord(0, 0, 0, 1, 0, 0), NONE);
        Checks.due("lord at 1", x.lord(1, 0, 0, 1, 0, 0), NONE);
        Checks.due("papers", x.papers(0, 0, 0), false);
        Checks.due("window", x.window(0, 0, 0, 0), false);
        Checks.due("wants", x.wants(0, 0, 0), NONE);
        Checks.due("ahead", x.ahead(0, 1), NONE);
        Checks.due("set", x.set(0, 0), false);
        Checks.due("night", x.night(0, 0, 0), NONE);
        Checks.due("end", x.end(0, 0), NONE);
        Checks.due("known", x.known(0, 0, 0, 0), -2);
        int[] judged = {0, 0, 0, NONE};
        for (int what = 0; what < judged.length; what++) {
            Checks.due("judge(" + what + ")", x.judge(what), judged[what]);
        }
        Checks.due("fault(0)", x.fault(0), 0);
        Checks.due("fault(1)", x.fault(1), NONE);
        Checks.due("row(0)", x.row(0), 0);
        for (int what = 1; what < 7; what++) {
            Checks.due("row(" + what + ")", x.row(what), NONE);
        }
        Checks.of(1, "an empty TAPE");
        Checks.due("edicts(1)", x.edicts(1), -2);
        Checks.due("edicts(0)", x.edicts(0), 0);
        Checks.due("feed", x.feed(0, 0, 0, 0, 0), 20);
    }

    private static void objectsApart() {
        Checks.of(1, "a new object beside others");
        java.util.List<Integer> alone = Checks.show(new LordsRoad());
        LordsRoad busy = Checks.busy();
        LordsRoad x = new LordsRoad();
        Checks.show(busy);
        Checks.due("a new one shows nothing of a busy one", Checks.show(x).equals(alone), true);
        Checks.due("two busy ones answer alike", Checks.show(Checks.busy()).equals(Checks.show(Checks.busy())), true);
    }

    private static void bytesOfFeed() {
        Checks.of(2, "four of each number, the highest first");
        for (int place = 0; place < 20; place++) {
            LordsRoad x = new LordsRoad();
            int[] n = new int[5];
            for (int k = 0; k < 20; k++) {
                n[k / 4] = n[k / 4] << 8 | (k == place ? 'x' : ' ');
            }
            x.feed(0x20202020, 0x20202020, 0x20202020, 0x20202020, 0x20202020);
            Checks.due("feed", x.feed(n[0], n[1], n[2], n[3], n[4]), 40);
            Checks.due("a word of one letter at " + place, x.edicts(40), NONE);
            Checks.due("its place behind the TAPE", x.fault(1), 20 + place);
        }
        int[][] ends = {{Integer.MIN_VALUE, 0}, {Integer.MAX_VALUE, 0}, {-1, 0}, {0, 0}, {0x20ffffff, 1},
            {0x202020ff, 3}, {0x20202080, 3}, {0x20207f20, 2}, {0x20800000, 1}};
        for (int[] one : ends) {
            LordsRoad x = new LordsRoad();
            x.feed(one[0], 0, 0, 0, 0);
            Checks.due("edicts of " + one[0], x.edicts(4), NONE);
            Checks.due("place of the byte that is none", x.fault(1), one[1]);
            Checks.due("its fault", x.fault(0), 1);
        }
    }

    private static void fullTape() {
        Checks.of(2, "NONE, and none come, if it would have more than 600");
        LordsRoad x = new LordsRoad();
        for (int k = 1; k <= 29; k++) {
            Checks.due("feed " + k, x.feed(0x20202020, 0x20202020, 0x20202020, 0x20202020, 0x20202020), 20 * k);
        }
        // "             pay 9; ": the last one that is taken
        Checks.due("feed 30", x.feed(0x20202020, 0x20202020, 0x20202020, 0x20706179, 0x20393b20), 600);
        for (int k = 0; k < 3; k++) {
            Checks.due("feed beyond", x.feed('x', 'x', 'x', 'x', 'x'), NONE);
        }
        Checks.due("601 bytes", x.edicts(601), -2);
        Checks.due("feed beyond, yet", x.feed(0, 0, 0, 0, 0), NONE);
        Checks.due("600 bytes as they were", x.edicts(600), 1);
        Checks.due("pay", x.count(6), 9);
        Checks.due("empty again", x.feed(0, 0, 0, 0, 0), 20);
        Checks.refused(Checks.FULL, "feed", NONE, (y, a) -> y.feed(a[0], a[1], a[2], a[3], a[4]), 1, 2, 3, 4, 5);

        Checks.of(2, "how many it has");
        Checks.due("behind -2 the tape grows on", x.edicts(21), -2);
        Checks.due("forty", x.feed(0, 0, 0, 0, 0), 40);
        Checks.due("a fault", x.edicts(1), NONE);
        Checks.due("behind a fault it is empty", x.feed(0, 0, 0, 0, 0), 20);
        Checks.due("none of it", x.edicts(0), 0);
        Checks.due("behind no bytes it is empty, too", x.feed(0, 0, 0, 0, 0), 20);
    }

    private static void lengthsOfEdicts() {
        Checks.of(3, "the TAPE's first n bytes");
        String text = "pay 9;hold 4;news 77";
        int[][] due = {{0, 0, 0, NONE}, {1, NONE, 1, 0}, {2, NONE, 1, 0}, {3, NONE, 1, 3}, {4, NONE, 1, 4},
            {5, NONE, 1, 5}, {6, 1, 0, NONE}, {7, NONE, 1, 6}, {12, NONE, 1, 12}, {13, 2, 0, NONE},
            {18, NONE, 1, 18}, {20, NONE, 1, 20}};
        for (int[] one : due) {
            LordsRoad x = new LordsRoad();
            Checks.put(x, text);
            Checks.due("edicts(" + one[0] + ")", x.edicts(one[0]), one[1]);
            Checks.due("fault(0) of edicts(" + one[0] + ")", x.fault(0), one[2]);
            Checks.due("fault(1) of edicts(" + one[0] + ")", x.fault(1), one[3]);
            Checks.due("the tape is empty then", x.edicts(1), -2);
            Checks.due("pay of edicts(" + one[0] + ")", x.count(6), one[1] >= 1 ? 9 : 2);
        }
        Checks.of(3, "-2, and the TAPE stays");
        Checks.Call edicts = (x, a) -> x.edicts(a[0]);
        for (int n : new int[] {21, 600, -1, Integer.MIN_VALUE, Integer.MAX_VALUE}) {
            Checks.refused(Checks.BUSY, "edicts", -2, edicts, n);
        }
        for (int n : new int[] {601, -1, Integer.MIN_VALUE, Integer.MAX_VALUE}) {
            Checks.refused(Checks.FULL, "edicts", -2, edicts, n);
        }
        Checks.refused(Checks.NEW, "edicts", -2, edicts, 1);
        Checks.of(3, "a text of 600 bytes");
        LordsRoad x = new LordsRoad();
        String longest = "room 1" + " ".repeat(593) + ";";
        Checks.due("the last byte ends its line", Checks.tell(x, longest), 1);
        Checks.put(x, longest);
        Checks.due("without it", x.edicts(599), NONE);
        Checks.due("more must come at the length", x.fault(1), 599);
        Checks.due("at the last byte", Checks.tell(x, " ".repeat(599) + "x"), NONE);
        Checks.due("its place", x.fault(1), 599);
        Checks.due("behind the last byte", Checks.tell(x, " ".repeat(596) + "room"), NONE);
        Checks.due("the place is the length", x.fault(1), 600);
        Checks.due("blanks alone", Checks.tell(x, " \n".repeat(300)), 0);
    }

    private static void linesOfEdicts() {
        Checks.of(3, "how many LINES");
        String text = "";
        for (int k = 0; k < LINES.length; k++) {
            reads(text, k);
            text += LINES[k] + " 1;";
        }
        reads(text, 9);
        Checks.of(3, "are the EDICTS; without a LINE march 8, news 24, hold 3, pay 2");
        LordsRoad x = new LordsRoad();
        Checks.tell(x, "march 1;news 2;hold 4;pay 5;attend 0;bearers 6;room 7;fine 8;yield 9-rank;");
        x.station(0, 1, 1, 0, 1, false);
        x.lord(1, 3, 0, 259, 0, 0);
        x.lord(1, 4, 0, 9, 0, 0);
        int[] told = {0, 6, 7, 8};
        int[] plain = {1, 25, 10, 0};
        for (int what = 0; what < 4; what++) {
            Checks.due("told: wants " + what, x.wants(0, what, 100), told[what]);
        }
        Checks.due("told: ahead", x.ahead(0, 1), 1);
        Checks.due("no text", x.edicts(0), 0);
        int[] counts = {8, 24, 3, 2, 0};
        for (int k = 0; k < counts.length; k++) {
            Checks.due("count(" + (3 + k) + ")", x.count(3 + k), counts[k]);
        }
        Checks.of(3, "without a LINE attend 1, bearers men / 10, room 10, fine 0, yield rank");
        for (int what = 0; what < 4; what++) {
            Checks.due("wants " + what, x.wants(0, what, 100), plain[what]);
        }
        Checks.due("ahead", x.ahead(0, 1), 0);
        Checks.due("nine men", x.wants(1, 1, 0), 0);
    }

    private static void tokensOfOneByte() {
        Checks.of(4, "1: a TOKEN that is none or can't stand there; blanks 10, 32");
        for (int b = 0; b < 256; b++) {
            String text = String.valueOf((char) b);
            if (b == 10 || b == 32) {
                reads(text, 0);
                reads("pay" + text + "5" + text + ";" + text, 1);
            } else {
                fails(text, 1, 0);
                fails("pay 5;" + text, 1, 6);
                boolean digit = b >= '0' && b <= '9';
                if (digit) {
                    reads("pay 5" + text + ";", 1);
                } else {
                    fails("pay 5" + text + ";", 1, b == ';' ? 6 : 5);
                }
            }
        }
    }

    private static void bytesInAnExpression() {
        Checks.of(4, "1: a TOKEN that is none or can't stand there, in an E");
        for (int b = 0; b < 256; b++) {
            char sign = (char) b;
            boolean digit = b >= '0' && b <= '9';
            boolean blank = b == 10 || b == 32;
            String between = "room 1" + sign + "1;";
            if (digit || "+-*/%<=>".indexOf(sign) >= 0) {
                reads(between, 1);
            } else {
                fails(between, 1, blank || sign == ';' ? 7 : 6);
            }
            String first = "room " + sign + "1;";
            if (digit || blank || sign == '-') {
                reads(first, 1);
            } else {
                fails(first, 1, sign == '(' ? 7 : 5);
            }
        }
    }

    private static void wordsAndNumbers() {
        Checks.of(4, "words: small letters in a row; N: digits");
        for (String line : LINES) {
            reads(line + "1;", 1);
            reads(line + "\n 1 ;", 1);
            fails(line.substring(0, line.length() - 1) + " 1;", 1, 0);
            fails(line + "s 1;", 1, 0);
            fails(line.substring(1) + " 1;", 1, 0);
            fails(line.substring(0, 2) + " " + line.substring(2) + " 1;", 1, 0);
            fails(line.toUpperCase() + " 1;", 1, 0);
            fails(line.substring(0, 2) + line.substring(2).toUpperCase() + " 1;", 1, 0);
            fails(line + line + " 1;", 1, 0);
            fails("room " + line + ";", 1, 5);
            fails("room 1" + line + ";", 1, 6);
            fails("room 1+" + line + ";", 1, 7);
        }
        for (char letter = 'a'; letter <= 'z'; letter++) {
            fails("march" + letter + " 1;", 1, 0);
            fails(letter + "march 1;", 1, 0);
            fails("room rank" + letter + ";", 1, 5);
            fails("room " + letter + "rank;", 1, 5);
            fails("room 1 or" + letter + " 1;", 1, 7);
        }
        for (String name : NAMES) {
            reads("room " + name + ";", 1);
            reads("room 1-" + name + "-1;", 1);
            fails("room " + name + "s;", 1, 5);
            fails("room " + name.substring(0, name.length() - 1) + ";", 1, 5);
            fails("room " + name + "1;", 1, 5 + name.length());
            fails(name + " 1;", 1, 0);
            fails("march " + name + ";", 1, 6);
        }
        for (String word : new String[] {"late", "and", "or", "not"}) {
            fails(word + " 1;", 1, 0);
            fails("march " + word + ";", 1, 6);
            fails("fine 1+" + word + "s;", 1, 7);
        }
        reads("room not1;", 1);
        reads("room 1and 1or 1;", 1);
        fails("room 1 an 1;", 1, 7);
        fails("room rankor1;", 1, 5);
        fails("room rank or1x;", 1, 13);
        fails("room notrank;", 1, 5);
        reads("pay 0000000000000000000000000000000000000009;", 1);
        reads("room 0000000000000000000000000000000000099999;", 1);
        fails("pay 4 4;", 1, 6);
        fails("room 4 4;", 1, 7);
    }

    private static void signsOfTwo() {
        Checks.of(4, "a = (or > behind <) right behind < or > belongs to it");
        int[] values = {1, 1, 0, 1, 0, 0};
        for (int k = 0; k < COMPARISONS.length; k++) {
            LordsRoad x = Checks.chain(1);
            Checks.plainLord(x, 1, 0, 1);
            Checks.due("room 3" + COMPARISONS[k] + "4", Checks.tell(x, "room 3" + COMPARISONS[k] + "4;"), 1);
            Checks.due("is worth", x.wants(0, 2, 0), values[k]);
            Checks.due("three knots", x.count(7), 3);
            if (COMPARISONS[k].length() == 2) {
                String apart = COMPARISONS[k].charAt(0) + " " + COMPARISONS[k].charAt(1);
                fails("room 3" + apart + "4;", 1, 8);
            }
        }
        String[] none = {"=<", "=>", "==", "><", ">>", "<<"};
        for (String two : none) {
            fails("room 3" + two + "4;", 1, 7);
        }
        fails("room 3<>=4;", 1, 8);
        fails("room 3<=>4;", 1, 8);
        fails("room 3<==4;", 1, 8);
        fails("room 3>==4;", 1, 8);
        reads("room 3<-4;", 1);
        reads("room 3<(4);", 1);
    }

    private static void whatCanStandWhere() {
        Checks.of(4, "1: a TOKEN that can't stand there");
        String[] ends = {";", ")", ",", "march", "and", "or", "*", "/", "%", "+", "<", "<=", "=", "<>", ">=", ">"};
        for (String token : ends) {
            fails("room " + token, 1, 5);
            fails("room 1+" + token, 1, 7);
            fails("room 1< " + token, 1, 8);
            fails("room 1 and " + token, 1, 11);
            fails("room -" + token, 1, 6);
            fails("room not " + token, 1, 9);
            fails("room (" + token, 1, 6);
            fails("yield 1," + token, 1, 8);
        }
        for (String token : new String[] {"1", "rank", "late", "not", "(", "march"}) {
            fails("room 1 " + token, 1, 7);
            fails("room (1) " + token, 1, 9);
            fails("room rank " + token, 1, 10);
            fails("room (1 " + token, 1, 8);
        }
        for (String token : new String[] {",", ")"}) {
            fails("room 1" + token + "1;", 1, 6);
            fails("room (1)" + token + "1;", 1, 8);
        }
        fails("room (1,1);", 1, 7);
        fails("yield (1,1);", 1, 8);
        fails("room (1;", 1, 7);
        fails("march 1,2;", 1, 7);
        fails("march (1);", 1, 6);
        fails("march -1;", 1, 6);
        fails("march ;", 1, 6);
        fails("march 1 march 2;", 1, 8);
        Checks.of(4, "B: not B | C; a not behind a sign of C can't stand");
        for (String sign : SIGNS) {
            boolean joins = sign.length() > 3;
            String text = "room 1" + sign + "not 1;";
            if (joins) {
                reads(text, 1);
            } else {
                fails(text, 1, 6 + sign.length());
            }
            reads("room 1" + sign + "(not 1);", 1);
            reads("room 1" + sign + "-1;", 1);
        }
        fails("room -not 1;", 1, 6);
        reads("room -(not 1);", 1);
        reads("room not not 1;", 1);
        reads("room not -1;", 1);
        Checks.of(4, "C: one comparison alone");
        for (String one : COMPARISONS) {
            for (String other : COMPARISONS) {
                fails("room 1" + one + "2" + other + "3;", 1, 7 + one.length());
                fails("room 1" + one + "2+3*4" + other + "3;", 1, 11 + one.length());
                reads("room 1" + one + "2 and 1" + other + "3;", 1);
                reads("room 1" + one + "2 or 1" + other + "3;", 1);
                reads("room (1" + one + "2)" + other + "3;", 1);
                reads("room 1" + one + "(2" + other + "3);", 1);
            }
        }
        fails("room 1=(2=3)=4;", 1, 12);
        fails("room (1=2 and 3=4=5);", 1, 17);
        fails("room not 1=2=3;", 1, 12);
    }

    private static void moreMustCome() {
        Checks.of(4, "1: the length, if more must come");
        for (String line : LINES) {
            fails(line, 1, line.length());
            fails(line + " 1", 1, line.length() + 2);
            fails(line + " 1 \n ", 1, line.length() + 5);
            fails("\n" + line + "  ", 1, line.length() + 3);
        }
        for (String open : new String[] {"room (", "room -", "room not ", "room (1", "room 1+", "room 1<", "room 1 and",
            "yield 1,", "yield 1,2,3,", "room (1)", "pay 3;room ((1)"}) {
            fails(open, 1, open.length());
            fails(open + " ", 1, open.length() + 1);
        }
        reads("", 0);
        reads("pay 1;", 1);
        reads("pay 1; ", 1);
    }

    private static void numbersOfLines() {
        Checks.of(4, "2: march 1 .. 24, news 1 .. 99, hold 1 .. 9, pay 0 .. 99");
        int[][] bounds = {{1, 24}, {1, 99}, {1, 9}, {0, 99}};
        for (int k = 0; k < bounds.length; k++) {
            String line = LINES[k] + " ";
            for (int n = 0; n <= 120; n++) {
                if (n >= bounds[k][0] && n <= bounds[k][1]) {
                    LordsRoad x = new LordsRoad();
                    Checks.due("edicts of " + line + n, Checks.tell(x, line + n + ";"), 1);
                    Checks.due("count(" + (3 + k) + ")", x.count(3 + k), n);
                } else {
                    fails(line + n + ";", 2, line.length());
                }
            }
            for (String much : new String[] {"000" + (bounds[k][1] + 1), "99999", "100000", "2147483648", "4294967297",
                "18446744073709551617", "9".repeat(500)}) {
                fails(line + much + ";", 2, line.length());
                fails(line + much, 2, line.length());
            }
            reads(line + "000" + bounds[k][1] + ";", 1);
        }
    }

    private static void numbersInExpressions() {
        Checks.of(4, "2: in E 0 .. 99999");
        for (int k = 4; k < LINES.length; k++) {
            String line = LINES[k] + " ";
            reads(line + "0;", 1);
            reads(line + "99999;", 1);
            fails(line + "100000;", 2, line.length());
            fails(line + "1+(100000", 2, line.length() + 3);
            fails(line + "000100000;", 2, line.length());
            fails(line + "4294967296;", 2, line.length());
            fails(line + "18446744073709551616;", 2, line.length());
            fails(line + "1".repeat(400) + ";", 2, line.length());
        }
        fails("yield 1,100000;", 2, 8);
        fails("yield 1,2,100000;", 2, 10);
        LordsRoad x = Checks.chain(1);
        Checks.plainLord(x, 1, 0, 1);
        Checks.tell(x, "room 99999-90001;");
        Checks.due("99999 less 90001", x.wants(0, 2, 0), 9998);
    }

    private static void brackets() {
        Checks.of(4, "2: a ninth '(' open");
        String eight = "(".repeat(8) + "1" + ")".repeat(8);
        for (int k = 4; k < LINES.length; k++) {
            String line = LINES[k] + " ";
            reads(line + eight + ";", 1);
            reads(line + eight + "+" + eight + ";", 1);
            fails(line + "(".repeat(9) + "1" + ")".repeat(9) + ";", 2, line.length() + 8);
            fails(line + "(".repeat(9), 2, line.length() + 8);
            fails(line + "(".repeat(500), 2, line.length() + 8);
            fails(line + eight + "-" + "(".repeat(9), 2, line.length() + 26);
        }
        reads("room ((((((((1)+(2" + ")".repeat(8) + "+" + eight + ";", 1);
        fails("room ((((((((1)+((2", 2, 17);
        reads("yield " + eight + "," + eight + "," + eight + ";room " + eight + ";", 2);
        fails("room ((((((((1(", 1, 14);
        fails("room " + eight + ");", 1, 22);
        fails("room " + "(".repeat(8) + "1" + ")".repeat(7) + ";", 1, 21);
    }

    private static void knots() {
        Checks.of(4, "2: a 97th KNOT of the whole text");
        String fine95 = "fine 1" + "+1".repeat(47) + ";";
        String fine96 = "fine -1" + "+1".repeat(47) + ";";
        reads(fine96, 1);
        LordsRoad x = new LordsRoad();
        Checks.tell(x, fine96);
        Checks.due("96 knots", x.count(7), 96);
        fails("fine --1" + "+1".repeat(47) + ";", 2, 101);
        for (String sign : SIGNS) {
            reads(fine95.replace(";", "") + ";room 1;", 2);
            fails(fine95 + "room 1" + sign + "1;", 2, 107 + (sign.charAt(0) == ' ' ? 1 : 0));
        }
        for (String name : NAMES) {
            reads(fine95 + "room " + name + ";", 2);
            fails(fine96 + "room " + name + ";", 2, 107);
        }
        for (String first : new String[] {"1", "-1", "not 1", "late"}) {
            fails(fine96 + "room " + first + ";", 2, 107);
            fails(fine96 + "yield " + first + ";", 2, 108);
        }
        fails(fine95 + "room -1;", 2, 107);
        fails(fine95 + "room not 1;", 2, 110);
        fails("room 1" + "+1".repeat(47) + ";fine late+1;", 2, 110);
        reads("room 1" + "+1".repeat(47) + ";fine late;", 2);
        Checks.of(4, "2: what is no KNOT");
        reads("fine ((1)" + "+1".repeat(47) + ");march 2;news 2;hold 2;pay 2;room 1;", 6);
        reads("yield (1" + "+1".repeat(46) + "),(1),-(1);", 1);
        x.edicts(0);
        Checks.tell(x, "march 1;pay 2;yield (1),((2)),3;");
        Checks.due("N in an E alone", x.count(7), 3);
    }

    private static void yieldsTooMany() {
        Checks.of(4, "2: a fourth E of yield, at its first TOKEN, if an E can begin with that");
        reads("yield 1;", 1);
        reads("yield 1,2;", 1);
        reads("yield 1,2,3;", 1);
        for (String begins : new String[] {"1", "0", "99999", "100000", "rank", "late", "-", "-1", "not", "(", "(1)"}) {
            fails("yield 1,2,3," + begins + ";", 2, 12);
            fails("yield 1,2,3, \n" + begins, 2, 14);
        }
        for (String none : new String[] {";", ",", ")", "+", "*", "<", "=", "and", "or", "march", "x", "!", "A"}) {
            fails("yield 1,2,3," + none + ";", 1, 12);
        }
        fails("yield 1,2,3,", 1, 12);
        fails("yield 1,2,3 4;", 1, 12);
    }

    private static void toldAlready() {
        Checks.of(4, "3: a LINE told already, at its word");
        for (String line : LINES) {
            String once = line + " 1;";
            fails(once + once, 3, once.length());
            fails(once + " " + line, 3, once.length() + 1);
            fails(once + line + ";", 3, once.length());
            fails(once + line + " 999999999;", 3, once.length());
            for (String other : LINES) {
                if (!other.equals(line)) {
                    reads(once + other + " 1;", 2);
                    fails(once + other + " 1;" + once, 3, once.length() + other.length() + 3);
                }
            }
        }
    }

    private static void lateElsewhere() {
        Checks.of(4, "4: late in an E that is not of fine");
        reads("fine late;", 1);
        reads("fine 1+(late)*-late;", 1);
        for (String line : new String[] {"attend ", "bearers ", "room ", "yield "}) {
            int at = line.length();
            fails(line + "late;", 4, at);
            fails(line + "late", 4, at);
            fails(line + "1+late;", 4, at + 2);
            fails(line + "-late;", 4, at + 1);
            fails(line + "not late;", 4, at + 4);
            fails(line + "(late);", 4, at + 1);
            fails(line + "1=2 or late;", 4, at + 7);
            fails("fine late;" + line + "late;", 4, at + 10);
        }
        fails("yield 1,late;", 4, 8);
        fails("yield 1,2,late;", 4, 10);
        fails("march late;", 1, 6);
        fails("room 1 late;", 1, 7);
        fails("late 1;", 1, 0);
    }

    private static void firstAlongTheText() {
        Checks.of(4, "the first along the text");
        fails("room 100000;room late;march 0;march", 2, 5);
        fails("room 1;room late;room 100000;", 3, 7);
        fails("room late+100000;", 4, 5);
        fails("room 1+;room 2;", 1, 7);
        fails("pay 100;!", 2, 4);
        fails("!pay 100;", 1, 0);
        Checks.of(4, "of one place the least");
        fails("yield 1,2,3,late;", 2, 12);
        String fine96 = "fine -1" + "+1".repeat(47) + ";";
        fails(fine96 + "room late;", 2, 107);
        fails(fine96 + "room );", 1, 107);
        fails(fine96 + "fine 1;", 3, 102);
        fails("room ((((((((late(", 4, 13);
        fails("room ((((((((1 late", 1, 15);
    }

    private static void faultOfTheLatest() {
        Checks.of(4, "of the latest edicts() that was not -2");
        LordsRoad x = new LordsRoad();
        Checks.tell(x, "room late;");
        Checks.due("-2", x.edicts(1), -2);
        Checks.due("-2 below 0", x.edicts(-1), -2);
        Checks.due("its fault yet", x.fault(0), 4);
        Checks.due("its place yet", x.fault(1), 5);
        Checks.tell(x, "pay 100;");
        Checks.due("the next fault", x.fault(0), 2);
        Checks.due("its place", x.fault(1), 4);
        x.edicts(0);
        Checks.due("no fault", x.fault(0), 0);
        Checks.due("NONE without", x.fault(1), NONE);
        Checks.of(4, "NONE for another what");
        Checks.tell(x, "room late;");
        for (int what : new int[] {-1, 2, -2, Integer.MIN_VALUE, Integer.MAX_VALUE}) {
            Checks.due("fault(" + what + ")", x.fault(what), NONE);
        }
    }
}
