import java.util.NoSuchElementException;

/** An office for lords who travel to one city by edict; ../shared/DOC.md says what it answers. */
public final class LordsRoad {
    public static final int NONE = -1;

    private static final int REFUSED = -2;
    private static final int CITY = 0;
    private static final int MOST_STATIONS = 12;
    private static final int MOST_LORDS = 6;
    private static final int DAYS = 100;
    private static final int LAST_START = 60;
    private static final int MOST_TAPE = 600;
    private static final int MOST_LOOKS = 2000;
    private static final int NEVER_ARRIVES = 100;
    /** Above all yields, costs and weights that a row can have. */
    private static final int BEYOND_ALL = 2000000000;

    private static final int MOST_KNOTS = 96;
    private static final int MOST_OPEN = 8;
    private static final int MOST_YIELDS = 3;
    private static final int MOST_NUMBER = 99999;
    private static final int MOST_COINS = 9999;
    private static final long MOST_VALUE = 1000000000000L;
    /** The knots of a text and those of the seven expressions that stand without a line. */
    private static final int MOST_CODE = MOST_KNOTS + 16;

    private static final int OUT_OF_PLACE = 1;
    private static final int TOO_MUCH = 2;
    private static final int TOLD_ALREADY = 3;
    private static final int LATE_ELSEWHERE = 4;

    private static final int END = 0;
    private static final int STRANGE = 1;
    private static final int NUMBER = 2;
    private static final int MARCH = 3;
    private static final int NEWS = 4;
    private static final int HOLD = 5;
    private static final int PAY = 6;
    private static final int ATTEND = 7;
    private static final int BEARERS = 8;
    private static final int ROOM = 9;
    private static final int FINE = 10;
    private static final int YIELD = 11;
    private static final int YEAR = 12;
    private static final int RANK = 13;
    private static final int WORTH = 14;
    private static final int MEN = 15;
    private static final int HOUSE = 16;
    private static final int HOURS = 17;
    private static final int GUNS = 18;
    private static final int WOMEN = 19;
    private static final int LATE = 20;
    private static final int OR = 21;
    private static final int AND = 22;
    private static final int NOT = 23;
    private static final int LESS = 24;
    private static final int AT_MOST = 25;
    private static final int LIKE = 26;
    private static final int UNLIKE = 27;
    private static final int AT_LEAST = 28;
    private static final int MORE = 29;
    private static final int PLUS = 30;
    private static final int MINUS = 31;
    private static final int TIMES = 32;
    private static final int OVER = 33;
    private static final int REST = 34;
    /** No token: a minus that stands before its only side. */
    private static final int NEGATE = 35;
    private static final int OPEN = 36;
    private static final int CLOSE = 37;
    private static final int COMMA = 38;
    private static final int SEMICOLON = 39;

    /** In the order of their numbers from MARCH on, each with a blank behind it. */
    private static final String WORDS =
            "march news hold pay attend bearers room fine yield year rank worth men house hours guns women late or and not ";

    private static final int WORD_DUE = 1;
    private static final int NUMBER_DUE = 2;
    private static final int SEMICOLON_DUE = 3;
    private static final int SIDE_DUE = 4;
    private static final int SIGN_DUE = 5;

    private static final int LOOSEST = 1;
    private static final int COMPARING = 4;
    private static final int TIGHTEST = 7;

    private final Road road;
    private final Lord[] lords;
    private final Procession[] processions;
    private final Run run;
    private final Search search;
    private final Reader reader;
    private final byte[] tape;
    private Edicts inForce;
    private Edicts draft;
    private int lordCount;
    private int tapeLength;
    private int theYear;
    private int latestFault;
    private int latestPlace;
    private boolean stale;

    public LordsRoad() {
        road = new Road();
        lords = new Lord[MOST_LORDS];
        processions = new Procession[MOST_LORDS];
        for (int k = 0; k < MOST_LORDS; k++) {
            lords[k] = new Lord(k, road.city);
            processions[k] = new Procession(lords[k]);
        }
        inForce = new Edicts();
        inForce.clear();
        draft = new Edicts();
        run = new Run(road, processions, inForce);
        search = new Search(run, processions);
        tape = new byte[MOST_TAPE];
        reader = new Reader(tape, draft);
        latestPlace = NONE;
        stale = true;
    }

    public int feed(int a, int b, int c, int d, int e) {
        if (tapeLength + 20 > MOST_TAPE) {
            return NONE;
        }
        putNumber(a);
        putNumber(b);
        putNumber(c);
        putNumber(d);
        putNumber(e);
        return tapeLength;
    }

    public int edicts(int n) {
        if (n < 0 || n > tapeLength) {
            return REFUSED;
        }
        reader.read(n, draft);
        tapeLength = 0;
        latestFault = reader.fault;
        latestPlace = reader.faultPlace;
        if (latestFault != 0) {
            return NONE;
        }
        Edicts former = inForce;
        inForce = draft;
        draft = former;
        stale = true;
        return inForce.lines;
    }

    public int fault(int what) {
        if (what == 0) {
            return latestFault;
        }
        return what == 1 ? latestPlace : NONE;
    }

    public boolean year(int y) {
        if (!within(y, 0, 9999)) {
            return false;
        }
        theYear = y;
        stale = true;
        return true;
    }

    public int station(int next, int hours, int houses, int duty, int shut, boolean gate) {
        if (road.size >= MOST_STATIONS || !road.has(next) || !within(hours, 1, 20)
                || !within(houses, 1, 3) || !within(duty, 0, 999) || !within(shut, 1, 100)) {
            return NONE;
        }
        Station fresh = road.stations[road.size];
        fresh.next = road.stationOf(next);
        fresh.hours = hours;
        fresh.houses = houses;
        fresh.duty = duty;
        fresh.shut = shut;
        fresh.gate = gate;
        fresh.hoursToCity = fresh.next.hoursToCity + hours;
        stale = true;
        return road.size++;
    }

    public boolean height(int station, int from, int to, int h) {
        if (!road.hasWay(station) || !within(from, 0, DAYS - 1) || !within(to, from, DAYS - 1)
                || !within(h, 0, 99)) {
            return false;
        }
        int[] heights = road.stationOf(station).heights;
        for (int day = from; day <= to; day++) {
            heights[day] = h;
        }
        stale = true;
        return true;
    }

    public int between(int a, int b) {
        return road.has(a) && road.has(b) ? road.stationOf(a).hoursTo(road.stationOf(b)) : NONE;
    }

    public int lord(int home, int rank, int worth, int men, int guns, int women) {
        if (lordCount >= MOST_LORDS || !road.hasWay(home) || !within(rank, 0, 9)
                || !within(worth, 0, 999) || !within(men, 1, 999)
                || !within(guns, 0, 99) || !within(women, 0, 99)) {
            return NONE;
        }
        Lord fresh = lords[lordCount];
        fresh.home = road.stationOf(home);
        fresh.hours = fresh.home.hoursToCity;
        fresh.rank = rank;
        fresh.worth = worth;
        fresh.men = men;
        fresh.guns = guns;
        fresh.women = women;
        stale = true;
        return lordCount++;
    }

    public boolean papers(int lord, int guns, int women) {
        if (!hasLord(lord) || !within(guns, 0, 99) || !within(women, 0, 99)) {
            return false;
        }
        lords[lord].gunPapers = guns;
        lords[lord].womenPapers = women;
        stale = true;
        return true;
    }

    public boolean window(int lord, int from, int to, int due) {
        if (!hasLord(lord) || !within(from, 0, LAST_START) || !within(to, from, LAST_START)
                || !within(due, 0, DAYS - 1)) {
            return false;
        }
        lords[lord].from = from;
        lords[lord].to = to;
        lords[lord].due = due;
        stale = true;
        return true;
    }

    public int wants(int lord, int what, int v) {
        if (!hasLord(lord)) {
            return NONE;
        }
        switch (what) {
            case 0:
                return inForce.lets(lords[lord], theYear) ? 1 : 0;
            case 1:
                return inForce.coins(BEARERS, lords[lord], theYear, 0);
            case 2:
                return inForce.coins(ROOM, lords[lord], theYear, 0);
            case 3:
                return within(v, 0, 100) ? inForce.coins(FINE, lords[lord], theYear, v) : NONE;
            default:
                return NONE;
        }
    }

    public int ahead(int a, int b) {
        if (!hasLord(a) || !hasLord(b) || a == b) {
            return NONE;
        }
        return inForce.putsAhead(lords[a], lords[b], theYear) ? a : b;
    }

    public boolean set(int lord, int day) {
        if (!hasLord(lord) || !within(day, NONE, LAST_START)) {
            return false;
        }
        lords[lord].day = day;
        stale = true;
        return true;
    }

    public int judge(int what) {
        runRowAtHand();
        switch (what) {
            case 0:
                return run.yields;
            case 1:
                return run.cost;
            case 2:
                return run.arrived;
            case 3:
                return run.lastArrival;
            default:
                return NONE;
        }
    }

    public int night(int lord, int day, int what) {
        if (!hasLord(lord) || !within(day, 0, DAYS - 1)) {
            return NONE;
        }
        runRowAtHand();
        Procession one = processions[lord];
        switch (what) {
            case 0:
                return one.nightPlaces[day];
            case 1:
                return one.stateAt(one.nightPlaces[day]);
            case 2:
                return one.nightYields[day];
            case 3:
                return one.nightHeld[day];
            case 4:
                return one.nightCosts[day];
            default:
                return NONE;
        }
    }

    public int end(int lord, int what) {
        if (!hasLord(lord)) {
            return NONE;
        }
        runRowAtHand();
        Procession one = processions[lord];
        if (one.day == NONE) {
            return NONE;
        }
        switch (what) {
            case 0:
                return one.arrival;
            case 1:
                return one.late;
            case 2:
                return one.excused;
            case 3:
                return one.fine;
            case 4:
                return one.cost;
            case 5:
                return one.hired;
            default:
                return NONE;
        }
    }

    public int given(int station, int what) {
        if (!road.hasWay(station)) {
            return NONE;
        }
        runRowAtHand();
        if (what == 0) {
            return road.stationOf(station).givenInAll;
        }
        return what == 1 ? road.stationOf(station).givenMost : NONE;
    }

    public int plan() {
        openSearch(0, false);
        return search.goThrough() ? search.bestYields : NONE;
    }

    public int anew(int day) {
        if (!within(day, 0, DAYS - 1)) {
            return NONE;
        }
        openSearch(day, true);
        return search.goThrough() ? search.bestMoved : NONE;
    }

    public int row(int what) {
        if (what == 0) {
            return search.looks;
        }
        return what >= 1 && hasLord(what - 1) ? lords[what - 1].day : NONE;
    }

    public int known(int lord, int station, int day, int what) {
        if (!hasLord(lord) || !road.has(station) || !within(day, 0, DAYS - 1)
                || !within(what, 0, 1)) {
            return REFUSED;
        }
        runRowAtHand();
        int[] places = processions[lord].nightPlaces;
        int latest = road.latestKnown(places, road.stationOf(station), day, inForce.news);
        if (what == 0 || latest == NONE) {
            return latest;
        }
        return places[latest];
    }

    public int look(int station, int what) throws IndexOutOfBoundsException, NoSuchElementException {
        if (!road.has(station)) {
            throw new IndexOutOfBoundsException("no such station");
        }
        Station one = road.stationOf(station);
        switch (what) {
            case 0:
                return one.next.number;
            case 1:
                return one.hours;
            case 2:
                return one.houses;
            case 3:
                return one.duty;
            case 4:
                return one.shut;
            case 5:
                return one.gate ? 1 : 0;
            default:
                throw new NoSuchElementException("no such what");
        }
    }

    public int count(int what) {
        switch (what) {
            case 0:
                return road.size;
            case 1:
                return lordCount;
            case 2:
                return theYear;
            case 3:
                return inForce.march;
            case 4:
                return inForce.news;
            case 5:
                return inForce.hold;
            case 6:
                return inForce.pay;
            case 7:
                return inForce.knots;
            default:
                return NONE;
        }
    }

    private static boolean within(int value, int least, int most) {
        return value >= least && value <= most;
    }

    private boolean hasLord(int lord) {
        return lord >= 0 && lord < lordCount;
    }

    private void putNumber(int number) {
        for (int shift = 24; shift >= 0 && tapeLength < MOST_TAPE; shift -= 8) {
            tape[tapeLength] = (byte) (number >> shift);
            tapeLength++;
        }
    }

    /** The run by the row at hand is kept until something that it hangs on changes. */
    private void runRowAtHand() {
        if (!stale) {
            return;
        }
        run.prepare(inForce, lordCount, theYear);
        for (int k = 0; k < lordCount; k++) {
            processions[k].day = lords[k].attends ? lords[k].day : NONE;
        }
        run.keepRecord();
        stale = false;
    }

    private void openSearch(int day, boolean again) {
        run.prepare(inForce, lordCount, theYear);
        search.open(lordCount, day, again);
        stale = true;
    }

    /** A station with its way toward the city; the city's own way stays empty and leads to itself. */
    private static final class Station {
        final int number;
        final int[] heights = new int[DAYS];
        Station next;
        int hours;
        int houses;
        int duty;
        int shut;
        boolean gate;
        int hoursToCity;
        int givenToday;
        int givenInAll;
        int givenMost;

        Station(int number) {
            this.number = number;
        }

        boolean isCity() {
            return number == CITY;
        }

        /** Every next is a lesser station, so the greater of two unlike ones always has to step. */
        int hoursTo(Station goal) {
            Station one = this;
            Station other = goal;
            int sum = 0;
            for (int k = 0; k < 2 * MOST_STATIONS && one != other; k++) {
                if (one.number > other.number) {
                    sum += one.hours;
                    one = one.next;
                } else {
                    sum += other.hours;
                    other = other.next;
                }
            }
            return sum;
        }

        boolean isShutOn(int day) {
            return day >= 0 && day < DAYS && heights[day] >= shut;
        }

        void forgetGiven() {
            givenToday = 0;
            givenInAll = 0;
            givenMost = 0;
        }

        int giveBearers(int wanted) {
            int gives = Math.min(wanted, duty - givenToday);
            givenToday += gives;
            givenInAll += gives;
            givenMost = Math.max(givenMost, givenToday);
            return gives;
        }
    }

    /** All stations; number 0 is the city. */
    private static final class Road {
        final Station city = new Station(CITY);
        final Station[] stations = new Station[MOST_STATIONS];
        int size = 1;

        Road() {
            for (int k = 0; k < MOST_STATIONS; k++) {
                stations[k] = k == CITY ? city : new Station(k);
                stations[k].next = city;
            }
        }

        boolean has(int station) {
            return station >= 0 && station < size;
        }

        boolean hasWay(int station) {
            return station > CITY && station < size;
        }

        /** The city for a number that no station has. */
        Station stationOf(int number) {
            return has(number) && number < MOST_STATIONS ? stations[number] : city;
        }

        int latestKnown(int[] places, Station station, int day, int news) {
            for (int night = Math.min(day, DAYS - 1); night >= 0; night--) {
                if (stationOf(places[night]).hoursTo(station) <= (day - night) * news) {
                    return night;
                }
            }
            return NONE;
        }

        void forgetGiven() {
            for (int k = 0; k < size; k++) {
                stations[k].forgetGiven();
            }
        }

        void beginDay() {
            for (int k = 0; k < size; k++) {
                stations[k].givenToday = 0;
            }
        }
    }

    /** A lord as he was told, his day of the row at hand, and what the edicts want of him. */
    private static final class Lord {
        final int number;
        Station home;
        int hours;
        int rank;
        int worth;
        int men;
        int guns;
        int women;
        int gunPapers;
        int womenPapers;
        int from = 0;
        int to = 10;
        int due = 30;
        int day = NONE;
        boolean attends;
        int bearers;
        int room;

        Lord(int number, Station home) {
            this.number = number;
            this.home = home;
        }

        int fact(int name, int ofYear, int late) {
            switch (name) {
                case YEAR:
                    return ofYear;
                case RANK:
                    return rank;
                case WORTH:
                    return worth;
                case MEN:
                    return men;
                case HOUSE:
                    return number;
                case HOURS:
                    return hours;
                case GUNS:
                    return guns;
                case WOMEN:
                    return women;
                default:
                    return late;
            }
        }
    }

    /** What the lines of a text say; the expressions stand in it with each sign behind its sides. */
    private static final class Edicts {
        private static final int EXPRESSIONS = YIELD - ATTEND + MOST_YIELDS;

        int march;
        int news;
        int hold;
        int pay;
        int lines;
        int knots;
        private final int[] signs = new int[MOST_CODE];
        private final int[] numbers = new int[MOST_CODE];
        private final int[] starts = new int[EXPRESSIONS];
        private final int[] ends = new int[EXPRESSIONS];
        private final long[] values = new long[MOST_CODE];
        private int size;
        private int yieldCount;

        /** What holds without a line is written first; a line's expression takes its place. */
        void clear() {
            march = 8;
            news = 24;
            hold = 3;
            pay = 2;
            lines = 0;
            knots = 0;
            size = 0;
            writeNumber(ATTEND, 1);
            begin(BEARERS);
            add(MEN, 0);
            add(NUMBER, 10);
            add(OVER, 0);
            finish(BEARERS);
            writeNumber(ROOM, 10);
            writeNumber(FINE, 0);
            begin(YIELD);
            add(RANK, 0);
            finish(YIELD);
        }

        private void writeNumber(int word, int number) {
            begin(word);
            add(NUMBER, number);
            finish(word);
        }

        /** A word's expressions have the places from its own on; only yield has more than one. */
        private static boolean isPlace(int word) {
            return word >= ATTEND && word < ATTEND + EXPRESSIONS;
        }

        void begin(int word) {
            if (isPlace(word)) {
                starts[word - ATTEND] = size;
                ends[word - ATTEND] = size;
            }
            if (word >= YIELD) {
                yieldCount = Math.min(MOST_YIELDS, word - YIELD + 1);
            }
        }

        void finish(int word) {
            if (isPlace(word)) {
                ends[word - ATTEND] = size;
            }
        }

        void add(int sign, int number) {
            if (size < MOST_CODE) {
                signs[size] = sign;
                numbers[size] = number;
                size++;
            }
        }

        void settle(int word, int number) {
            switch (word) {
                case MARCH:
                    march = number;
                    break;
                case NEWS:
                    news = number;
                    break;
                case HOLD:
                    hold = number;
                    break;
                default:
                    pay = number;
                    break;
            }
        }

        boolean lets(Lord lord, int ofYear) {
            return work(ATTEND, lord, ofYear, 0) != 0;
        }

        int coins(int word, Lord lord, int ofYear, int late) {
            return (int) Math.max(0, Math.min(MOST_COINS, work(word, lord, ofYear, late)));
        }

        boolean putsAhead(Lord a, Lord b, int ofYear) {
            for (int k = 0; k < yieldCount; k++) {
                long first = work(YIELD + k, a, ofYear, 0);
                long second = work(YIELD + k, b, ofYear, 0);
                if (first != second) {
                    return first < second;
                }
            }
            return a.number < b.number;
        }

        /** The value of an expression; 0 with an error anywhere in it. */
        private long work(int word, Lord lord, int ofYear, int late) {
            if (!isPlace(word)) {
                return 0;
            }
            int top = 0;
            for (int k = starts[word - ATTEND]; k < ends[word - ATTEND]; k++) {
                int sign = signs[k];
                if (isSide(sign)) {
                    if (top >= MOST_CODE) {
                        return 0;
                    }
                    values[top] = sign == NUMBER ? numbers[k] : lord.fact(sign, ofYear, late);
                    top++;
                } else if (sign == NOT || sign == NEGATE) {
                    if (top < 1) {
                        return 0;
                    }
                    long side = values[top - 1];
                    values[top - 1] = sign == NEGATE ? -side : oneIf(side == 0);
                } else {
                    if (top < 2 || isError(sign, values[top - 2], values[top - 1])) {
                        return 0;
                    }
                    values[top - 2] = join(sign, values[top - 2], values[top - 1]);
                    top--;
                }
            }
            return top == 1 ? values[0] : 0;
        }

        static boolean isSide(int sign) {
            return sign == NUMBER || sign >= YEAR && sign <= LATE;
        }

        private static long oneIf(boolean is) {
            return is ? 1 : 0;
        }

        /** Looks ahead, so that join neither divides by 0 nor leaves the range of a long. */
        private static boolean isError(int sign, long a, long b) {
            switch (sign) {
                case PLUS:
                    return Math.abs(a + b) > MOST_VALUE;
                case MINUS:
                    return Math.abs(a - b) > MOST_VALUE;
                case TIMES:
                    return a != 0 && Math.abs(b) > MOST_VALUE / Math.abs(a);
                case OVER:
                case REST:
                    return b == 0;
                default:
                    return false;
            }
        }

        private static long join(int sign, long a, long b) {
            switch (sign) {
                case OR:
                    return oneIf(a != 0 || b != 0);
                case AND:
                    return oneIf(a != 0 && b != 0);
                case LESS:
                    return oneIf(a < b);
                case AT_MOST:
                    return oneIf(a <= b);
                case LIKE:
                    return oneIf(a == b);
                case UNLIKE:
                    return oneIf(a != b);
                case AT_LEAST:
                    return oneIf(a >= b);
                case MORE:
                    return oneIf(a > b);
                case PLUS:
                    return a + b;
                case MINUS:
                    return a - b;
                case TIMES:
                    return a * b;
                case OVER:
                    return b == 0 ? 0 : a / b;
                default:
                    return b == 0 ? 0 : a % b;
            }
        }
    }

    /** The tokens of a text, one behind the other. */
    private static final class Tokens {
        private final byte[] text;
        private int length;
        private int at;
        int kind;
        int place;
        int number;

        Tokens(byte[] text) {
            this.text = text;
        }

        void begin(int textLength) {
            length = Math.min(textLength, text.length);
            at = 0;
            step();
        }

        void step() {
            for (int k = 0; k < MOST_TAPE && isBlank(signAt(at)); k++) {
                at++;
            }
            place = at;
            int sign = signAt(at);
            if (at >= length) {
                kind = END;
            } else if (isLetter(sign)) {
                stepOverWord();
            } else if (isDigit(sign)) {
                stepOverNumber();
            } else {
                at++;
                kind = kindOfSign(sign);
            }
        }

        /** A blank's number is never answered behind the end, nor a letter's or a digit's. */
        private int signAt(int index) {
            return index >= 0 && index < length ? text[index] : 0;
        }

        private static boolean isBlank(int sign) {
            return sign == 10 || sign == 32;
        }

        private static boolean isLetter(int sign) {
            return sign >= 'a' && sign <= 'z';
        }

        private static boolean isDigit(int sign) {
            return sign >= '0' && sign <= '9';
        }

        private void stepOverWord() {
            for (int k = 0; k < MOST_TAPE && isLetter(signAt(at)); k++) {
                at++;
            }
            kind = wordBetween(place, at);
        }

        private int wordBetween(int from, int to) {
            int word = MARCH;
            int index = from;
            boolean same = true;
            for (int k = 0; k < WORDS.length(); k++) {
                char sign = WORDS.charAt(k);
                if (sign != ' ') {
                    same = same && index < to && signAt(index) == sign;
                    index++;
                } else if (same && index == to) {
                    return word;
                } else {
                    word++;
                    index = from;
                    same = true;
                }
            }
            return STRANGE;
        }

        /** A number that is too much anywhere stays so, however long it is. */
        private void stepOverNumber() {
            kind = NUMBER;
            number = 0;
            for (int k = 0; k < MOST_TAPE && isDigit(signAt(at)); k++) {
                number = Math.min(MOST_NUMBER + 1, number * 10 + (signAt(at) - '0'));
                at++;
            }
        }

        private int kindOfSign(int sign) {
            switch (sign) {
                case '<':
                    return joinsNext('=') ? AT_MOST : joinsNext('>') ? UNLIKE : LESS;
                case '>':
                    return joinsNext('=') ? AT_LEAST : MORE;
                case '=':
                    return LIKE;
                case '+':
                    return PLUS;
                case '-':
                    return MINUS;
                case '*':
                    return TIMES;
                case '/':
                    return OVER;
                case '%':
                    return REST;
                case '(':
                    return OPEN;
                case ')':
                    return CLOSE;
                case ',':
                    return COMMA;
                case ';':
                    return SEMICOLON;
                default:
                    return STRANGE;
            }
        }

        private boolean joinsNext(int sign) {
            if (signAt(at) != sign) {
                return false;
            }
            at++;
            return true;
        }
    }

    /** Reads a text into edicts, token by token, and stops at its first fault. */
    private static final class Reader {
        private final Tokens tokens;
        /** Signs and open brackets whose right side is not yet whole. */
        private final int[] waiting = new int[MOST_CODE];
        private Edicts into;
        /** A bit for each open bracket, and the lowest for none: whether a comparison stands there. */
        private int compared;
        private int due;
        private int told;
        private int word;
        private int waitingCount;
        private int open;
        private boolean notMayStand;
        int fault;
        int faultPlace;

        Reader(byte[] text, Edicts into) {
            tokens = new Tokens(text);
            this.into = into;
        }

        void read(int length, Edicts edicts) {
            into = edicts;
            into.clear();
            due = WORD_DUE;
            told = 0;
            fault = 0;
            faultPlace = NONE;
            tokens.begin(length);
            for (int k = 0; k <= MOST_TAPE && fault == 0; k++) {
                if (due == WORD_DUE && tokens.kind == END) {
                    return;
                }
                take(tokens.kind);
                tokens.step();
            }
        }

        private void take(int kind) {
            switch (due) {
                case WORD_DUE:
                    takeWord(kind);
                    break;
                case NUMBER_DUE:
                    takeNumber(kind);
                    break;
                case SIDE_DUE:
                    takeSide(kind);
                    break;
                case SIGN_DUE:
                    takeSign(kind);
                    break;
                default:
                    takeSemicolon(kind);
                    break;
            }
        }

        private void fail(int what) {
            fault = what;
            faultPlace = tokens.place;
        }

        private void takeWord(int kind) {
            if (kind < MARCH || kind > YIELD) {
                fail(OUT_OF_PLACE);
            } else if ((told & 1 << kind) != 0) {
                fail(TOLD_ALREADY);
            } else {
                told |= 1 << kind;
                into.lines++;
                word = kind;
                if (kind <= PAY) {
                    due = NUMBER_DUE;
                } else {
                    beginExpression();
                }
            }
        }

        private void takeNumber(int kind) {
            if (kind != NUMBER) {
                fail(OUT_OF_PLACE);
            } else if (!within(tokens.number, word == PAY ? 0 : 1, mostOfWord())) {
                fail(TOO_MUCH);
            } else {
                into.settle(word, tokens.number);
                due = SEMICOLON_DUE;
            }
        }

        private int mostOfWord() {
            switch (word) {
                case MARCH:
                    return 24;
                case HOLD:
                    return 9;
                default:
                    return 99;
            }
        }

        private void takeSemicolon(int kind) {
            if (kind != SEMICOLON) {
                fail(OUT_OF_PLACE);
            } else {
                due = WORD_DUE;
            }
        }

        private void beginExpression() {
            into.begin(word);
            waitingCount = 0;
            open = 0;
            compared = 0;
            notMayStand = true;
            due = SIDE_DUE;
        }

        private static boolean canBegin(int kind) {
            return Edicts.isSide(kind) || kind == NOT || kind == MINUS || kind == OPEN;
        }

        private void takeSide(int kind) {
            if (!canBegin(kind) || kind == NOT && !notMayStand) {
                fail(OUT_OF_PLACE);
            } else if (isTooMuch(kind)) {
                fail(TOO_MUCH);
            } else if (kind == LATE && word != FINE) {
                fail(LATE_ELSEWHERE);
            } else if (kind == OPEN) {
                putOff(OPEN);
                open++;
                noteCompared(false);
                notMayStand = true;
            } else if (kind == NOT || kind == MINUS) {
                into.knots++;
                putOff(kind == NOT ? NOT : NEGATE);
                notMayStand = kind == NOT;
            } else {
                into.knots++;
                into.add(kind, kind == NUMBER ? tokens.number : 0);
                due = SIGN_DUE;
            }
        }

        /** Of a token that can stand where it does. */
        private boolean isTooMuch(int kind) {
            if (word >= YIELD + MOST_YIELDS) {
                return true;
            }
            if (kind == OPEN) {
                return open >= MOST_OPEN;
            }
            return into.knots >= MOST_KNOTS || kind == NUMBER && tokens.number > MOST_NUMBER;
        }

        private void takeSign(int kind) {
            int bond = bondOf(kind);
            if (bond == 0) {
                takeEndOfSide(kind);
            } else if (bond == COMPARING && isCompared()) {
                fail(OUT_OF_PLACE);
            } else if (isTooMuch(kind)) {
                fail(TOO_MUCH);
            } else {
                into.knots++;
                writeWaiting(bond);
                putOff(kind);
                if (bond <= COMPARING) {
                    noteCompared(bond == COMPARING);
                }
                notMayStand = bond < COMPARING;
                due = SIDE_DUE;
            }
        }

        private boolean isCompared() {
            return (compared & 1 << open) != 0;
        }

        private void noteCompared(boolean is) {
            compared = is ? compared | 1 << open : compared & ~(1 << open);
        }

        private void takeEndOfSide(int kind) {
            if (kind == CLOSE && open > 0) {
                writeWaiting(LOOSEST);
                waitingCount = Math.max(0, waitingCount - 1);
                open--;
            } else if (open > 0 || kind != SEMICOLON && (kind != COMMA || word < YIELD)) {
                fail(OUT_OF_PLACE);
            } else {
                writeWaiting(LOOSEST);
                into.finish(word);
                due = WORD_DUE;
                if (kind == COMMA) {
                    word++;
                    beginExpression();
                }
            }
        }

        /** How tightly a sign between two sides binds them; 0 if it is none. */
        private static int bondOf(int kind) {
            switch (kind) {
                case OR:
                    return LOOSEST;
                case AND:
                    return 2;
                case LESS:
                case AT_MOST:
                case LIKE:
                case UNLIKE:
                case AT_LEAST:
                case MORE:
                    return COMPARING;
                case PLUS:
                case MINUS:
                    return 5;
                case TIMES:
                case OVER:
                case REST:
                    return 6;
                default:
                    return 0;
            }
        }

        private static int bondOfWaiting(int sign) {
            if (sign == NOT) {
                return COMPARING - 1;
            }
            return sign == NEGATE ? TIGHTEST : bondOf(sign);
        }

        private void putOff(int sign) {
            if (waitingCount < MOST_CODE) {
                waiting[waitingCount] = sign;
                waitingCount++;
            }
        }

        /** An open bracket has bond 0, so nothing before it is written. */
        private void writeWaiting(int leastBond) {
            for (int k = waitingCount - 1; k >= 0 && bondOfWaiting(waiting[k]) >= leastBond; k--) {
                into.add(waiting[k], 0);
                waitingCount = k;
            }
        }
    }

    /** A lord under way in one run, and his nights if the run keeps a record. */
    private static final class Procession {
        final Lord lord;
        final int[] nightPlaces = new int[DAYS];
        final int[] nightYields = new int[DAYS];
        final int[] nightHeld = new int[DAYS];
        final int[] nightCosts = new int[DAYS];
        /** The day to set out; NONE if he has no run. */
        int day = NONE;
        Station at;
        int held;
        int yields;
        int cost;
        int hired;
        int excused;
        int arrival;
        int late;
        int fine;
        private int gatesLookedAt;

        Procession(Lord lord) {
            this.lord = lord;
            at = lord.home;
        }

        void begin() {
            at = lord.home;
            held = 0;
            yields = 0;
            cost = 0;
            hired = 0;
            excused = 0;
            arrival = NONE;
            late = 0;
            fine = 0;
            gatesLookedAt = 0;
        }

        boolean isAskedOn(int today) {
            return day != NONE && day <= today && !at.isCity();
        }

        boolean failsAt(Station gate) {
            return (gatesLookedAt & 1 << gate.number) == 0
                    && (lord.guns > lord.gunPapers || lord.women > lord.womenPapers);
        }

        void lookedAt(Station gate) {
            gatesLookedAt |= 1 << gate.number;
        }

        int stateAt(int place) {
            if (place == CITY) {
                return 2;
            }
            return place == lord.home.number ? 0 : 1;
        }

        int lateness() {
            int behind = arrival == NONE ? NEVER_ARRIVES : Math.max(0, arrival - lord.due);
            return Math.max(0, behind - excused);
        }

        void keepNight(int today) {
            if (today >= 0 && today < DAYS) {
                nightPlaces[today] = at.number;
                nightYields[today] = yields;
                nightHeld[today] = held;
                nightCosts[today] = cost;
            }
        }
    }

    /** All processions day by day. */
    private static final class Run {
        private final Road road;
        private final Procession[] processions;
        private final Procession[] order = new Procession[MOST_LORDS];
        private Edicts edicts;
        private int lordCount;
        private int ofYear;
        private int underWay;
        int yields;
        int cost;
        int arrived;
        int lastArrival;

        Run(Road road, Procession[] processions, Edicts edicts) {
            this.road = road;
            this.processions = processions;
            this.edicts = edicts;
            for (int k = 0; k < MOST_LORDS; k++) {
                order[k] = processions[k];
            }
        }

        /** Works out once what stays the same for every row of days. */
        void prepare(Edicts inForce, int count, int year) {
            edicts = inForce;
            lordCount = Math.min(count, MOST_LORDS);
            ofYear = year;
            for (int k = 0; k < lordCount; k++) {
                Lord lord = processions[k].lord;
                lord.attends = edicts.lets(lord, year);
                lord.bearers = edicts.coins(BEARERS, lord, year, 0);
                lord.room = edicts.coins(ROOM, lord, year, 0);
                putInOrder(k);
            }
        }

        /** Those of lesser numbers are in order by now. */
        private void putInOrder(int lord) {
            Procession one = processions[lord];
            int place = lord;
            for (int k = lord; k > 0 && edicts.putsAhead(one.lord, order[k - 1].lord, ofYear); k--) {
                order[k] = order[k - 1];
                place = k - 1;
            }
            order[place] = one;
        }

        void keepRecord() {
            begin();
            for (int day = 0; day < DAYS; day++) {
                passDay(day);
                for (int k = 0; k < lordCount; k++) {
                    processions[k].keepNight(day);
                }
            }
            finish();
        }

        /** Whether the run is better than that; yields and cost only grow, so it may stop early. */
        boolean isBetterThan(int otherYields, int otherCost) {
            begin();
            for (int day = 0; day < DAYS && underWay > 0; day++) {
                passDay(day);
                if (!isStillBelow(otherYields, otherCost)) {
                    return false;
                }
            }
            finish();
            return isStillBelow(otherYields, otherCost);
        }

        private boolean isStillBelow(int otherYields, int otherCost) {
            return yields < otherYields || yields == otherYields && cost < otherCost;
        }

        private void begin() {
            yields = 0;
            cost = 0;
            arrived = 0;
            lastArrival = NONE;
            underWay = 0;
            road.forgetGiven();
            for (int k = 0; k < lordCount; k++) {
                processions[k].begin();
                if (processions[k].day != NONE) {
                    underWay++;
                }
            }
        }

        private void finish() {
            for (int k = 0; k < lordCount; k++) {
                Procession one = processions[k];
                if (one.day != NONE) {
                    one.late = one.lateness();
                    one.fine = edicts.coins(FINE, one.lord, ofYear, one.late);
                    charge(one, one.fine);
                }
            }
        }

        private void charge(Procession one, int coins) {
            one.cost += coins;
            cost += coins;
        }

        private void passDay(int day) {
            road.beginDay();
            for (int k = 0; k < lordCount; k++) {
                if (order[k].isAskedOn(day)) {
                    ask(order[k], day);
                }
            }
        }

        private void ask(Procession one, int day) {
            if (one.held > 0) {
                one.held--;
                charge(one, one.lord.room);
                return;
            }
            Station from = one.at;
            Station farthest = farthestFor(one, day);
            Station goal = farthestHouse(one, farthest);
            if (goal != farthest) {
                one.yields++;
                yields++;
            }
            if (goal == from && from.isShutOn(day)) {
                one.excused++;
            }
            travel(one, goal);
            spendNight(one, day);
        }

        private Station farthestFor(Procession one, int day) {
            Station place = one.at;
            int hours = 0;
            for (int k = 0; k < MOST_STATIONS && !place.isCity(); k++) {
                hours += place.hours;
                if (hours > edicts.march || place.isShutOn(day)
                        || place.gate && place != one.at && one.failsAt(place)) {
                    return place;
                }
                place = place.next;
            }
            return place;
        }

        /** Where he is he has his house or his home, so he never goes without. */
        private Station farthestHouse(Procession one, Station farthest) {
            Station found = one.at;
            Station place = one.at;
            for (int k = 0; k < MOST_STATIONS && place != farthest; k++) {
                place = place.next;
                if (place.isCity() || lodgersAt(place) < place.houses) {
                    found = place;
                }
            }
            return found;
        }

        /** Those not asked yet stand where they lodged; a lord at home lodges in no house. */
        private int lodgersAt(Station station) {
            int lodgers = 0;
            for (int k = 0; k < lordCount; k++) {
                if (processions[k].at == station && processions[k].lord.home != station) {
                    lodgers++;
                }
            }
            return lodgers;
        }

        private void travel(Procession one, Station goal) {
            for (int k = 0; k < MOST_STATIONS && one.at != goal; k++) {
                int hired = one.lord.bearers - one.at.giveBearers(one.lord.bearers);
                one.hired += hired;
                charge(one, hired * edicts.pay);
                one.at = one.at.next;
                passGate(one);
            }
        }

        private void passGate(Procession one) {
            if (one.at.gate) {
                if (one.failsAt(one.at)) {
                    one.held = edicts.hold;
                }
                one.lookedAt(one.at);
            }
        }

        private void spendNight(Procession one, int day) {
            if (one.at.isCity()) {
                one.arrival = day;
                arrived++;
                lastArrival = day;
                underWay--;
            } else if (one.at != one.lord.home) {
                charge(one, one.lord.room);
            }
        }
    }

    /** All rows that may be, and the best of them. */
    private static final class Search {
        private final Run run;
        private final Procession[] processions;
        private final int[] first = new int[MOST_LORDS];
        private final int[] last = new int[MOST_LORDS];
        private final int[] best = new int[MOST_LORDS];
        private int lordCount;
        private boolean again;
        private int bestWeight;
        private int bestCost;
        int bestYields;
        int bestMoved;
        int looks;

        Search(Run run, Procession[] processions) {
            this.run = run;
            this.processions = processions;
        }

        /** Each lord's days; run.prepare has told by now who attends. */
        void open(int count, int day, boolean isAgain) {
            lordCount = Math.min(count, MOST_LORDS);
            again = isAgain;
            for (int k = 0; k < lordCount; k++) {
                Lord lord = processions[k].lord;
                if (!lord.attends) {
                    allow(k, NONE, NONE);
                } else if (again && lord.day != NONE && lord.day < day) {
                    allow(k, lord.day, lord.day);
                } else {
                    allow(k, again ? Math.max(lord.from, day) : lord.from, lord.to);
                }
            }
        }

        private void allow(int lord, int from, int to) {
            first[lord] = from;
            last[lord] = to;
        }

        /**
         * Whether there is a best row, which is the one at hand then. The last lord's day runs
         * fastest, so of like rows the first by days is met first.
         */
        boolean goThrough() {
            if (!isWithinBounds()) {
                return false;
            }
            begin();
            for (int look = 0; look < looks; look++) {
                int weight = again ? weightOfMoved() : 0;
                boolean lighter = weight < bestWeight;
                if (weight <= bestWeight && run.isBetterThan(
                        lighter ? BEYOND_ALL : bestYields,
                        lighter ? BEYOND_ALL : bestCost)) {
                    bestWeight = weight;
                    keepRow();
                }
                stepRow();
            }
            takeBest();
            return true;
        }

        private boolean isWithinBounds() {
            long rows = 1;
            for (int k = 0; k < lordCount; k++) {
                rows *= Math.max(0, last[k] - first[k] + 1);
            }
            looks = (int) Math.min(MOST_LOOKS, rows);
            return rows > 0 && rows <= MOST_LOOKS;
        }

        private void begin() {
            bestWeight = BEYOND_ALL;
            for (int k = 0; k < lordCount; k++) {
                processions[k].day = first[k];
            }
        }

        private void stepRow() {
            for (int k = lordCount - 1; k >= 0; k--) {
                if (processions[k].day < last[k]) {
                    processions[k].day++;
                    return;
                }
                processions[k].day = first[k];
            }
        }

        private void keepRow() {
            bestYields = run.yields;
            bestCost = run.cost;
            for (int k = 0; k < lordCount; k++) {
                best[k] = processions[k].day;
            }
        }

        private static boolean isMoved(Lord lord, int day) {
            return lord.attends && lord.day != day;
        }

        private int weightOfMoved() {
            int weight = 0;
            for (int k = 0; k < lordCount; k++) {
                Lord lord = processions[k].lord;
                weight += isMoved(lord, processions[k].day) ? 10 - lord.rank : 0;
            }
            return weight;
        }

        private void takeBest() {
            bestMoved = 0;
            for (int k = 0; k < lordCount; k++) {
                Lord lord = processions[k].lord;
                bestMoved += isMoved(lord, best[k]) ? 1 : 0;
                lord.day = best[k];
            }
        }
    }
}
