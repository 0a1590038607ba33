import java.util.NoSuchElementException;

/**
 * A registry of land. What is so on one DAY, as known on another, is not kept up from call to call: it comes of
 * going through the DEEDS anew, as what is entered later may annul or correct what was entered before.
 */
public final class LandHouse {
    public static final int NONE = -1;

    private static final int LAST_DAY = 219144;
    private static final int DAYS_AHEAD_OF_1700 = 620853;
    private static final int FULL_AGE = 18;
    private static final int CAUTION_DAYS = 180;
    private static final int TAKE_DAYS = 60;
    private static final int FOREVER = 1000000;
    private static final int SIDE = 1000;
    private static final long FINEST = 1000000L;

    private static final int TAPE_BYTES = 640;
    private static final int READ_BYTES = 600;
    private static final int KEPT_BYTES = 2000;
    private static final int MOST_ENTRIES = 150;
    private static final int MOST_CORNERS = 40;
    /** Of two FIGURES, each parted at the other's CORNERS. */
    private static final int MOST_EDGES = 160;
    private static final int MOST_OWNERS = 8;
    private static final int MOST_IN_ROW = 8;
    private static final int MOST_TOLD = 8;
    private static final int MOST_PARTS = 6;
    private static final int MOST_LOTS_TOLD = 6;
    private static final int MOST_POINTS = 12;
    private static final int MOST_OPEN = 10;
    private static final int MOST_SHARE = 1000;

    private static final int LOT = 0;
    private static final int PERSON = 1;
    private static final int CHARGE = 2;
    private static final int SERVE = 3;
    private static final int LEASE = 4;
    private static final int CAUTION = 5;
    private static final int OPTION = 6;
    private static final int SALE = 7;
    private static final int NAMED_SORTS = 7;
    private static final int ALL_SORTS = 8;
    private static final int[] MOST = {80, 40, 40, 40, 40, 40, 30, 60};
    /** Where the rows of a SORT begin among the things that are no LOTS. */
    private static final int[] FIRST = {0, 0, 40, 80, 120, 160, 200, 230};
    private static final int MOST_THINGS = 290;
    /** How many facts thing() tells of one of each SORT. */
    private static final int[] FACTS = {5, 4, 2, 4, 4, 1, 2};
    /** A thing's SORT and its number in one: SORT * BASE + number. */
    private static final int BASE = 100;

    /** What a NAME in a DEED must be, beside one of a SORT. */
    private static final int NEW = 10;
    private static final int NATURAL = 11;
    private static final int FIRM = 12;
    private static final int ENDABLE = 13;

    private static final int DONE = 0;
    private static final int BAD_NAME = 1;
    private static final int NO_RIGHT = 2;
    private static final int NO_FIGURE = 3;
    private static final int BARRED = 4;
    private static final int BURDEN = 5;
    private static final int BAD_SHARE = 6;
    private static final int FULL = 7;
    private static final int BAD_TIME = 8;
    private static final int BAD_STATE = 9;
    private static final int LATER = 20;
    private static final int VOID = 21;
    private static final int UNKNOWN = 22;
    private static final int COUNTS = 23;
    private static final int COUNTS_NOT = 24;

    private static final int OUT = 0;
    private static final int ON_BORDER = 1;
    private static final int IN = 2;

    private static final long LAND_NAME = 0x6c616e6400000000L;
    private static final long CROWN_NAME = 0x63726f776e000000L;
    private static final int CROWN = 0;

    /** Kinds of TOKENS. A SIGN of one byte has that byte's number. */
    private static final int STOP = 0;
    private static final int NO_TOKEN = 1;
    private static final int DATE = 2;
    private static final int NUMBER = 3;
    private static final int NAME = 4;
    private static final int DEAD = 5;
    private static final int UNEQUAL = 33;
    private static final int AT_MOST = 128;
    private static final int AT_LEAST = 129;

    /** The words of the language, a blank behind each, in the order of the numbers below. */
    private static final String ACT_WORDS =
        "person firm guard death close sell split join border charge pay assign rank free auction ";
    private static final String RIGHT_WORDS =
        "serve waive lease caution option take end ";
    private static final String DEED_WORDS =
        "annul correct on to born by from for into before of over at until way water light ";
    private static final String ASK_WORDS =
        "known count sum most list show trace lots persons charges serves leases cautions options where or and not ";
    private static final String THING_WORDS =
        "owner near named has adult area corners owners debts price age rent left points ";
    private static final int WORD_COUNT = 71;

    private static final int W_PERSON = 200;
    private static final int W_FIRM = 201;
    private static final int W_GUARD = 202;
    private static final int W_DEATH = 203;
    private static final int W_CLOSE = 204;
    private static final int W_SELL = 205;
    private static final int W_SPLIT = 206;
    private static final int W_JOIN = 207;
    private static final int W_BORDER = 208;
    private static final int W_CHARGE = 209;
    private static final int W_PAY = 210;
    private static final int W_ASSIGN = 211;
    private static final int W_RANK = 212;
    private static final int W_FREE = 213;
    private static final int W_AUCTION = 214;
    private static final int W_SERVE = 215;
    private static final int W_WAIVE = 216;
    private static final int W_LEASE = 217;
    private static final int W_CAUTION = 218;
    private static final int W_OPTION = 219;
    private static final int W_TAKE = 220;
    private static final int W_END = 221;
    private static final int W_ANNUL = 222;
    private static final int W_CORRECT = 223;
    private static final int W_ON = 224;
    private static final int W_TO = 225;
    private static final int W_BORN = 226;
    private static final int W_BY = 227;
    private static final int W_FROM = 228;
    private static final int W_FOR = 229;
    private static final int W_INTO = 230;
    private static final int W_BEFORE = 231;
    private static final int W_OF = 232;
    private static final int W_OVER = 233;
    private static final int W_AT = 234;
    private static final int W_UNTIL = 235;
    private static final int W_WAY = 236;
    private static final int W_LIGHT = 238;
    private static final int W_KNOWN = 239;
    private static final int W_COUNT = 240;
    private static final int W_SUM = 241;
    private static final int W_MOST = 242;
    private static final int W_LIST = 243;
    private static final int W_SHOW = 244;
    private static final int W_TRACE = 245;
    private static final int W_LOTS = 246;
    private static final int W_OPTIONS = 252;
    private static final int W_WHERE = 253;
    private static final int W_OR = 254;
    private static final int W_AND = 255;
    private static final int W_NOT = 256;
    private static final int W_OWNER = 257;
    private static final int W_NEAR = 258;
    private static final int W_NAMED = 259;
    private static final int W_HAS = 260;
    private static final int W_ADULT = 261;
    private static final int W_AREA = 262;
    private static final int W_CORNERS = 263;
    private static final int W_OWNERS = 264;
    private static final int W_DEBTS = 265;
    private static final int W_PRICE = 266;
    private static final int W_AGE = 267;
    private static final int W_RENT = 268;
    private static final int W_LEFT = 269;
    private static final int W_POINTS = 270;

    private final byte[] tape = new byte[TAPE_BYTES];
    private int tapeSize = 0;
    private int today = 0;
    private int handDay = 0;
    private int handKnown = 0;
    private int latestFault = 0;
    private final Deed[] entries = new Deed[MOST_ENTRIES];
    private int entryCount = 0;
    /** What is read next, and an ENTRY then if it is entered: no DEED is made in vain. */
    private Deed spare = new Deed();
    private final Reader reader = new Reader();
    private final Question question = new Question(reader);
    private final World atHand = new World();
    private final World asked = new World();
    private final Acts acts = new Acts(atHand, spare);
    private final Asker asker = new Asker(asked, question);

    public LandHouse() {
        for (int i = 0; i < MOST_ENTRIES; i++) {
            entries[i] = spare;
        }
    }

    public boolean feed(int a, int b, int c, int d, int e) {
        if (tapeSize + 20 > TAPE_BYTES) {
            return false;
        }
        feedFour(a);
        feedFour(b);
        feedFour(c);
        feedFour(d);
        feedFour(e);
        return true;
    }

    private void feedFour(int four) {
        for (int shift = 24; shift >= 0 && tapeSize < TAPE_BYTES; shift -= 8) {
            tape[tapeSize] = (byte) (four >> shift);
            tapeSize++;
        }
    }

    public boolean end(int n) {
        if (n < 0 || n > tapeSize) {
            return false;
        }
        tapeSize = n;
        return true;
    }

    public boolean clock(int day) {
        if (day < today || day > LAST_DAY) {
            return false;
        }
        today = day;
        return true;
    }

    public int enter() {
        readTape();
        boolean read = reader.readEntry(spare, entries, entryCount);
        latestFault = reader.fault;
        if (!read) {
            return -1 - reader.place;
        }
        if (entryCount >= MOST_ENTRIES) {
            return -1000;
        }
        spare.came = today;
        entries[entryCount] = spare;
        entryCount++;
        spare = new Deed();
        return entryCount;
    }

    public int fault() {
        return latestFault;
    }

    public int suppose() {
        readTape();
        boolean read = reader.readDeedAlone(spare);
        latestFault = reader.fault;
        if (!read) {
            return -1 - reader.place;
        }
        World world = viewOf(asked, spare.day, today);
        int fate = acts.perform(world, spare, world.ordered + 1);
        world.forget();
        return fate;
    }

    private void readTape() {
        reader.scan(tape, tapeSize);
        tapeSize = 0;
    }

    public int view(int day, int known) {
        if (day < 0 || day > LAST_DAY || known < 0 || known > today) {
            return NONE;
        }
        handDay = day;
        handKnown = known;
        return viewOf(atHand, handDay, handKnown).done;
    }

    /** Makes a World the VIEW of two DAYS, as the ENTRIES are by now. */
    private World viewOf(World world, int day, int known) {
        if (world.isOf(day, known, entryCount)) {
            return world;
        }
        world.begin(day, known, entryCount);
        world.weighOrders(entries);
        world.lineUp(entries);
        for (int i = 0; i < world.ordered; i++) {
            world.settle(i, acts.perform(world, world.deeds[i], i + 1));
        }
        world.day = day;
        return world;
    }

    public int came(int n) {
        if (n < 1 || n > entryCount) {
            return NONE;
        }
        return viewOf(atHand, handDay, handKnown).fate[n - 1];
    }

    public int ask() {
        readTape();
        boolean read = question.read();
        latestFault = reader.fault;
        if (!read) {
            return -1 - reader.place;
        }
        int day = question.day == NONE ? today : question.day;
        int known = question.known == NONE ? today : Math.min(question.known, today);
        asker.reply(viewOf(asked, day, known), question);
        return 0;
    }

    public long answer() {
        return asker.answer;
    }

    public int octet(int k) throws NoSuchElementException {
        if (k < 0 || k >= asker.textSize || k >= KEPT_BYTES) {
            throw new NoSuchElementException("no such byte");
        }
        return asker.text[k];
    }

    public int count(int what) {
        switch (what) {
            case 0: return entryCount;
            case 1: return tapeSize;
            case 2: return asker.textSize;
            case 3: return today;
            case 4: return handDay;
            case 5: return handKnown;
            case 6: return viewOf(atHand, handDay, handKnown).done;
            case 17: return viewOf(atHand, handDay, handKnown).size[SALE];
            default: break;
        }
        if (what < 10 || what >= 10 + NAMED_SORTS) {
            return NONE;
        }
        return viewOf(atHand, handDay, handKnown).howMany(what - 10);
    }

    public long name(int sort, int i) throws NoSuchElementException {
        World world = viewOf(atHand, handDay, handKnown);
        int number = world.numberOf(sort, i);
        if (number < 0) {
            throw new NoSuchElementException("no such thing");
        }
        return world.nameOf(sort, number);
    }

    public int thing(int sort, int i, int what) throws NoSuchElementException {
        World world = viewOf(atHand, handDay, handKnown);
        int number = world.numberOf(sort, i);
        if (number < 0) {
            throw new NoSuchElementException("no such thing");
        }
        return world.fact(sort, number, what);
    }

    public int corner(int i, int k, int what) throws NoSuchElementException {
        World world = viewOf(atHand, handDay, handKnown);
        int number = world.numberOf(LOT, i);
        Figure figure = world.lot(number).figure;
        if (number < 0 || k < 0 || k >= figure.size || what < 0 || what > 1) {
            throw new NoSuchElementException("no such corner");
        }
        return what == 0 ? figure.x[k] : figure.y[k];
    }

    public int owner(int i, int k, int what) throws NoSuchElementException {
        World world = viewOf(atHand, handDay, handKnown);
        int number = world.numberOf(LOT, i);
        Lot lot = world.lot(number);
        if (number < 0 || k < 0 || k >= lot.owners || what < 0 || what > 2) {
            throw new NoSuchElementException("no such owner");
        }
        return world.ownerFact(lot, k, what);
    }

    public int lots(int x, int y, int how) {
        if (x < 0 || x > SIDE || y < 0 || y > SIDE || how < 0 || how > 1) {
            return 0;
        }
        return viewOf(atHand, handDay, handKnown).lotsAt(x, y, how == 0 ? IN : ON_BORDER);
    }

    public long sum() {
        World world = viewOf(atHand, handDay, handKnown);
        long sum = 0;
        for (int sort = 0; sort < NAMED_SORTS; sort++) {
            for (int i = 0; i < world.size[sort]; i++) {
                if (world.isThere(sort, i)) {
                    sum = world.mixIn(sum, sort, i);
                }
            }
        }
        return sum;
    }

    /** The DAY of a date of the calendar, NONE where there is no such date. */
    private static int dayOf(int year, int month, int date) {
        if (year < 1700 || year > 2299 || month < 1 || month > 12 || date < 1) {
            return NONE;
        }
        // years that begin on March 1 have the leap day as their last one
        int from = month < 3 ? year - 1 : year;
        int months = month < 3 ? month + 9 : month - 3;
        int day = from * 365 + from / 4 - from / 100 + from / 400 + (153 * months + 2) / 5 + date - 1
            - DAYS_AHEAD_OF_1700;
        return dateOf(day) == year * 10000 + month * 100 + date ? day : NONE;
    }

    /** The date of a DAY, as year * 10000 + month * 100 + date: in the order of the DAYS. */
    private static int dateOf(int day) {
        int days = day + DAYS_AHEAD_OF_1700;
        int era = days / 146097;
        int inEra = days - era * 146097;
        int inYears = (inEra - inEra / 1460 + inEra / 36524 - inEra / 146096) / 365;
        int inYear = inEra - (inYears * 365 + inYears / 4 - inYears / 100);
        int months = (5 * inYear + 2) / 153;
        int date = inYear - (153 * months + 2) / 5 + 1;
        int month = months < 10 ? months + 3 : months - 9;
        int year = inYears + era * 400 + (month < 3 ? 1 : 0);
        return year * 10000 + month * 100 + date;
    }

    /** Full years from one DAY to another that is not ahead of it. */
    private static int yearsBetween(int from, int to) {
        return (dateOf(to) - dateOf(from)) / 10000;
    }

    /** The DAY from which on one that was born on a DAY is OF AGE. */
    private static int fullAgeOf(int birth) {
        int date = dateOf(birth);
        int year = date / 10000 + FULL_AGE;
        int day = dayOf(year, date / 100 % 100, date % 100);
        if (day < 0) {
            day = dayOf(year, 3, 1);
        }
        return day < 0 ? FOREVER : day;
    }

    /** Above 0, if c is on the left of the way from a to b; below 0 on the right; 0 straight on. */
    private static long turn(int ax, int ay, int bx, int by, int cx, int cy) {
        return (long) (bx - ax) * (cy - ay) - (long) (by - ay) * (cx - ax);
    }

    /** Whether p is on the stretch from a to b, its ends too. */
    private static boolean isOn(int ax, int ay, int bx, int by, int px, int py) {
        return px >= Math.min(ax, bx) && px <= Math.max(ax, bx) && py >= Math.min(ay, by) && py <= Math.max(ay, by)
            && (long) (bx - ax) * (py - ay) == (long) (by - ay) * (px - ax);
    }

    /** Of two numbers above 0, or one of them 0. */
    private static long commonDivisor(long a, long b) {
        // the lesser one is halved in two steps at least, so 63 bits are through long before this bound
        for (int i = 0; i < 200 && b != 0; i++) {
            long rest = a % b;
            a = b;
            b = rest;
        }
        return a == 0 ? 1 : a;
    }

    /** An ENTRY as it was read: an ORDER, a DEED, or an ORDER with the DEED that it tells. */
    private static final class Deed {
        int came;
        int order;
        int target;
        int act;
        int day;
        final long[] names = new long[MOST_TOLD];
        final int[] wants = new int[MOST_TOLD];
        int told;
        int date;
        int number;
        int kind;
        long shareTop;
        long shareBottom;
        final long[] partTop = new long[MOST_PARTS];
        final long[] partBottom = new long[MOST_PARTS];
        int parts;
        final int[] x = new int[MOST_POINTS];
        final int[] y = new int[MOST_POINTS];
        int points;

        void clear() {
            came = 0;
            order = 0;
            target = 0;
            act = 0;
            day = 0;
            told = 0;
            date = 0;
            number = 0;
            kind = 0;
            shareTop = 0;
            shareBottom = 1;
            parts = 0;
            points = 0;
        }

        void addName(long word, int want) {
            if (told < MOST_TOLD) {
                names[told] = word;
                wants[told] = want;
                told++;
            }
        }

        void addPart(long top, long bottom) {
            if (parts < MOST_PARTS) {
                partTop[parts] = top;
                partBottom[parts] = bottom;
                parts++;
            }
        }

        void addPoint(int px, int py) {
            if (points < MOST_POINTS) {
                x[points] = px;
                y[points] = py;
                points++;
            }
        }

        boolean tells(long word) {
            for (int i = 0; i < told; i++) {
                if (names[i] == word) {
                    return true;
                }
            }
            return false;
        }

        boolean isToldBefore(int at) {
            for (int i = 0; i < at; i++) {
                if (names[i] == names[at]) {
                    return true;
                }
            }
            return false;
        }

        /** Whether the PARTS are 1 together; the sum never passes 1, so that its fractions stay small. */
        boolean isWhole() {
            long top = 0;
            long bottom = 1;
            for (int i = 0; i < parts; i++) {
                if (partTop[i] > partBottom[i]) {
                    return false;
                }
                top = top * partBottom[i] + partTop[i] * bottom;
                bottom = bottom * partBottom[i];
                if (top > bottom) {
                    return false;
                }
                long divisor = commonDivisor(top, bottom);
                top /= divisor;
                bottom /= divisor;
            }
            return top == bottom;
        }
    }

    /** The TOKENS of a tape, and the reading of ENTRIES from them. */
    private static final class Reader {
        private final long[] words = new long[WORD_COUNT];
        private final int[] kinds = new int[TAPE_BYTES + 1];
        private final int[] begins = new int[TAPE_BYTES + 1];
        private final long[] values = new long[TAPE_BYTES + 1];
        private int size = 0;
        private int at = 0;
        /** The kind of the TOKEN at hand; DEAD behind a FAULT, so that nothing more is read. */
        int token = STOP;
        int fault = 0;
        int place = 0;
        private Deed deed = new Deed();
        /** The SHARE that was read last. */
        private long top = 0;
        private long bottom = 1;

        Reader() {
            int learnt = learn(ACT_WORDS, 0);
            learnt = learn(RIGHT_WORDS, learnt);
            learnt = learn(DEED_WORDS, learnt);
            learnt = learn(ASK_WORDS, learnt);
            learn(THING_WORDS, learnt);
        }

        private int learn(String text, int before) {
            int learnt = before;
            long word = 0;
            int shift = 56;
            for (int i = 0; i < text.length(); i++) {
                if (text.charAt(i) != ' ') {
                    word |= (long) text.charAt(i) << shift;
                    shift -= 8;
                } else if (learnt < WORD_COUNT) {
                    words[learnt] = word;
                    learnt++;
                    word = 0;
                    shift = 56;
                }
            }
            return learnt;
        }

        void scan(byte[] text, int length) {
            size = 0;
            int end = Math.min(length, text.length);
            for (int i = 0; i < end;) {
                boolean blank = text[i] == 10 || text[i] == 32;
                i = blank ? i + 1 : scanToken(text, end, i);
            }
            push(STOP, end, 0);
            at = 0;
            token = kinds[0];
            fault = 0;
            place = 0;
        }

        private void push(int kind, int begin, long value) {
            if (size < kinds.length) {
                kinds[size] = kind;
                begins[size] = begin;
                values[size] = value;
                size++;
            }
        }

        /** Gives the first byte behind the TOKEN, that is one byte on at least. */
        private int scanToken(byte[] text, int end, int from) {
            if (isDate(text, end, from)) {
                int year = digits(text, from, from + 4);
                int month = digits(text, from + 5, from + 7);
                push(DATE, from, dayOf(year, month, digits(text, from + 8, from + 10)));
                return from + 10;
            }
            if (!isWordByte(text[from])) {
                return scanSign(text, end, from);
            }
            int behind = from + 1;
            while (behind < end && isWordByte(text[behind])) {
                behind++;
            }
            if (isDigit(text[from])) {
                scanNumber(text, from, behind);
            } else {
                scanWord(text, from, behind);
            }
            return behind;
        }

        private void scanNumber(byte[] text, int from, int behind) {
            boolean plain = behind - from <= 6;
            for (int i = from; i < behind; i++) {
                plain = plain && isDigit(text[i]);
            }
            push(plain ? NUMBER : NO_TOKEN, from, plain ? digits(text, from, behind) : 0);
        }

        private void scanWord(byte[] text, int from, int behind) {
            if (behind - from > 8) {
                push(NO_TOKEN, from, 0);
                return;
            }
            long word = 0;
            for (int i = from; i < behind; i++) {
                word |= (long) text[i] << (56 - 8 * (i - from));
            }
            int kind = NAME;
            for (int i = 0; i < WORD_COUNT; i++) {
                if (words[i] == word) {
                    kind = W_PERSON + i;
                }
            }
            push(kind, from, word);
        }

        private int scanSign(byte[] text, int end, int from) {
            int sign = text[from];
            boolean equal = from + 1 < end && text[from + 1] == '=';
            int kind = NO_TOKEN;
            int length = 1;
            switch (sign) {
                case '(': case ')': case '{': case '}': case ',': case '/':
                case '#': case '+': case '-': case '*': case '=':
                    kind = sign;
                    break;
                case '<':
                    kind = equal ? AT_MOST : sign;
                    length = equal ? 2 : 1;
                    break;
                case '>':
                    kind = equal ? AT_LEAST : sign;
                    length = equal ? 2 : 1;
                    break;
                case '!':
                    kind = equal ? UNEQUAL : NO_TOKEN;
                    length = equal ? 2 : 1;
                    break;
                default:
                    break;
            }
            push(kind, from, 0);
            return from + length;
        }

        private static boolean isDigit(int b) {
            return b >= '0' && b <= '9';
        }

        private static boolean isWordByte(int b) {
            return b >= '0' && b <= '9' || b >= 'a' && b <= 'z';
        }

        private static boolean isDate(byte[] text, int end, int from) {
            if (from + 10 > end || from + 10 < end && isWordByte(text[from + 10])) {
                return false;
            }
            for (int i = 0; i < 10; i++) {
                boolean fits = i == 4 || i == 7 ? text[from + i] == '-' : isDigit(text[from + i]);
                if (!fits) {
                    return false;
                }
            }
            return true;
        }

        private static int digits(byte[] text, int from, int behind) {
            int value = 0;
            for (int i = from; i < behind; i++) {
                value = value * 10 + text[i] - '0';
            }
            return value;
        }

        /** Only the first FAULT stays: nothing behind it is read. */
        void note(int kind) {
            if (fault == 0) {
                fault = kind;
                place = begins[at];
                token = DEAD;
            }
        }

        /** Takes the TOKEN at hand, in which nothing else is wrong: being too far behind is the last FAULT. */
        void take() {
            if (fault != 0) {
                return;
            }
            if (begins[at] >= READ_BYTES) {
                fault = 4;
                place = begins[at];
                token = DEAD;
            } else if (at + 1 < size) {
                at++;
                token = kinds[at];
            }
        }

        void expect(int kind) {
            if (token == kind) {
                take();
            } else {
                note(1);
            }
        }

        /** What the TOKEN at hand tells: a NAME's bytes, a NUMBER, or the DAY of a DATE. */
        long told() {
            return values[at];
        }

        long takeName() {
            long word = values[at];
            expect(NAME);
            return word;
        }

        int takeNumber() {
            int value = (int) values[at];
            expect(NUMBER);
            return value;
        }

        int takeDate() {
            int day = (int) values[at];
            if (token == DATE && day < 0) {
                note(2);
            }
            expect(DATE);
            return day;
        }

        void finish() {
            if (token != STOP) {
                note(1);
            } else if (begins[at] > READ_BYTES) {
                note(4);
            }
        }

        boolean readEntry(Deed into, Deed[] entries, int count) {
            deed = into;
            deed.clear();
            if (token == W_ANNUL || token == W_CORRECT) {
                deed.order = token;
                take();
                expect('#');
                readTarget(entries, Math.min(count, entries.length));
                if (deed.order == W_CORRECT) {
                    expect(W_TO);
                    readDeed();
                }
            } else {
                readDeed();
            }
            finish();
            return fault == 0;
        }

        boolean readDeedAlone(Deed into) {
            deed = into;
            deed.clear();
            readDeed();
            finish();
            return fault == 0;
        }

        private void readTarget(Deed[] entries, int count) {
            long number = values[at];
            if (token == NUMBER) {
                if (number < 1 || number > count) {
                    note(3);
                } else if (deed.order == W_CORRECT && entries[(int) number - 1].order != 0) {
                    note(3);
                }
            }
            deed.target = (int) number;
            expect(NUMBER);
        }

        private void readDeed() {
            expect(W_ON);
            deed.day = takeDate();
            int act = token;
            if (act < W_PERSON || act > W_END) {
                note(1);
                return;
            }
            deed.act = act;
            take();
            if (act <= W_CLOSE) {
                readOfPersons(act);
            } else if (act <= W_BORDER) {
                readOfLots(act);
            } else if (act <= W_AUCTION) {
                readOfCharges(act);
            } else if (act <= W_WAIVE) {
                readOfServes(act);
            } else {
                readOfTerms(act);
            }
        }

        private void named(int want) {
            deed.addName(values[at], want);
            expect(NAME);
        }

        private void readOfPersons(int act) {
            if (act == W_PERSON) {
                named(NEW);
                expect(W_BORN);
                deed.date = takeDate();
            } else if (act == W_FIRM) {
                named(NEW);
                expect(W_BY);
                named(NATURAL);
            } else if (act == W_GUARD) {
                named(NATURAL);
                expect(W_BY);
                named(NATURAL);
            } else if (act == W_DEATH) {
                named(NATURAL);
                if (token == W_TO) {
                    take();
                    readParts();
                }
            } else {
                named(FIRM);
            }
        }

        private void readOfLots(int act) {
            named(LOT);
            if (act == W_SELL) {
                expect(W_FROM);
                named(PERSON);
                if (token == NUMBER) {
                    readShare();
                    deed.shareTop = top;
                    deed.shareBottom = bottom;
                }
                expect(W_TO);
                readParts();
                readPrice();
            } else if (act == W_SPLIT) {
                expect(W_BY);
                readPoints();
                expect(W_INTO);
                named(NEW);
                expect(',');
                named(NEW);
            } else {
                expect(',');
                named(LOT);
                if (act == W_JOIN) {
                    expect(W_INTO);
                    named(NEW);
                } else {
                    expect(W_BY);
                    readPoints();
                }
            }
        }

        private void readOfCharges(int act) {
            if (act == W_CHARGE) {
                named(NEW);
                expect(W_ON);
                readLots();
                expect(W_TO);
                named(PERSON);
                readPrice();
            } else if (act == W_PAY) {
                named(CHARGE);
                readPrice();
            } else if (act == W_ASSIGN) {
                named(CHARGE);
                expect(W_TO);
                named(PERSON);
            } else if (act == W_RANK) {
                named(CHARGE);
                expect(W_BEFORE);
                named(CHARGE);
                expect(W_ON);
                named(LOT);
            } else if (act == W_FREE) {
                named(LOT);
                expect(W_FROM);
                named(CHARGE);
            } else {
                named(LOT);
                expect(W_BY);
                named(CHARGE);
                expect(W_TO);
                named(PERSON);
                readPrice();
            }
        }

        private void readOfServes(int act) {
            if (act == W_WAIVE) {
                named(SERVE);
                return;
            }
            named(NEW);
            if (token < W_WAY || token > W_LIGHT) {
                note(1);
            }
            deed.kind = token - W_WAY;
            take();
            expect(W_OF);
            named(LOT);
            expect(W_OVER);
            named(LOT);
            expect(W_AT);
            readPoints();
        }

        private void readOfTerms(int act) {
            if (act == W_TAKE || act == W_END) {
                named(act == W_TAKE ? OPTION : ENDABLE);
                return;
            }
            named(NEW);
            expect(W_ON);
            named(LOT);
            expect(act == W_CAUTION ? W_BY : W_TO);
            named(PERSON);
            if (act != W_CAUTION) {
                expect(W_UNTIL);
                deed.date = takeDate();
            }
            if (act == W_LEASE) {
                readPrice();
            }
        }

        private void readPrice() {
            expect(W_FOR);
            deed.number = takeNumber();
        }

        private void readParts() {
            for (int i = 0; i <= MOST_PARTS; i++) {
                if (i == MOST_PARTS && token == NAME) {
                    note(4);
                }
                named(PERSON);
                if (token == NUMBER) {
                    readShare();
                    deed.addPart(top, bottom);
                } else {
                    deed.addPart(0, 1);
                }
                if (token != ',') {
                    break;
                }
                take();
            }
            for (int i = 0; i < deed.parts; i++) {
                if (deed.partTop[i] == 0) {
                    deed.partTop[i] = 1;
                    deed.partBottom[i] = deed.parts;
                }
            }
        }

        private void readShare() {
            long first = values[at];
            checkShareNumber();
            expect(NUMBER);
            expect('/');
            long second = values[at];
            checkShareNumber();
            expect(NUMBER);
            long divisor = commonDivisor(first, second);
            top = first / divisor;
            bottom = second / divisor;
        }

        private void checkShareNumber() {
            if (token == NUMBER && (values[at] < 1 || values[at] > MOST_SHARE)) {
                note(2);
            }
        }

        private void readLots() {
            for (int i = 0; i <= MOST_LOTS_TOLD; i++) {
                if (i == MOST_LOTS_TOLD && token == NAME) {
                    note(4);
                }
                named(LOT);
                if (token != ',') {
                    break;
                }
                take();
            }
        }

        private void readPoints() {
            for (int i = 0; i <= MOST_POINTS; i++) {
                if (i > 0 && token != '(') {
                    break;
                }
                if (i == MOST_POINTS) {
                    note(4);
                }
                expect('(');
                int px = takeNumber();
                expect(',');
                deed.addPoint(px, takeNumber());
                expect(')');
            }
        }
    }

    /** A QUESTION as it was read. VALUE and COND are kept as steps on a stack: what is reckoned with comes ahead. */
    private static final class Question {
        private Reader reader;
        int day = NONE;
        int known = NONE;
        int asks = 0;
        int sort = 0;
        long word = 0;
        final int[] steps = new int[TAPE_BYTES];
        final long[] values = new long[TAPE_BYTES];
        int size = 0;
        int valueEnd = 0;
        private int open = 0;

        Question(Reader with) {
            reader = with;
        }

        boolean read() {
            day = NONE;
            known = NONE;
            size = 0;
            open = 0;
            if (reader.token == W_AT) {
                reader.take();
                day = reader.takeDate();
            }
            if (reader.token == W_KNOWN) {
                reader.take();
                known = reader.takeDate();
            }
            readAsk();
            valueEnd = size;
            if (asks <= W_LIST && readSet()) {
                readCond();
            }
            reader.finish();
            return reader.fault == 0;
        }

        private void readAsk() {
            asks = reader.token;
            if (asks < W_COUNT || asks > W_TRACE) {
                reader.note(1);
            }
            reader.take();
            if (asks == W_SUM || asks == W_MOST) {
                readValue();
                reader.expect(W_OVER);
            } else if (asks == W_SHOW || asks == W_TRACE) {
                word = reader.takeName();
            }
        }

        /** Gives whether a COND comes. */
        private boolean readSet() {
            sort = reader.token - W_LOTS;
            if (reader.token < W_LOTS || reader.token > W_OPTIONS) {
                reader.note(1);
            }
            reader.take();
            if (reader.token != W_WHERE) {
                return false;
            }
            reader.take();
            return true;
        }

        private void step(int what, long value) {
            if (size < steps.length) {
                steps[size] = what;
                values[size] = value;
                size++;
            }
        }

        /** Takes a sign that opens one more within those that are open; false, where it is one too many. */
        private boolean opens() {
            if (open >= MOST_OPEN) {
                reader.note(4);
                return false;
            }
            open++;
            reader.take();
            return true;
        }

        private void readCond() {
            for (int ors = 0; ors <= TAPE_BYTES; ors++) {
                readOne();
                for (int ands = 0; reader.token == W_AND && ands <= TAPE_BYTES; ands++) {
                    reader.take();
                    readOne();
                    step(W_AND, 0);
                }
                if (ors > 0) {
                    step(W_OR, 0);
                }
                if (reader.token != W_OR) {
                    return;
                }
                reader.take();
            }
        }

        private void readOne() {
            int first = reader.token;
            if (first == W_NOT) {
                if (opens()) {
                    readOne();
                    open--;
                    step(W_NOT, 0);
                }
            } else if (first == '{') {
                if (opens()) {
                    readCond();
                    open--;
                    reader.expect('}');
                }
            } else if (first == W_OWNER || first == W_ON || first == W_NEAR || first == W_NAMED) {
                reader.take();
                step(first, reader.takeName());
            } else if (first == W_HAS) {
                readPoint();
            } else if (first == W_ADULT) {
                reader.take();
                step(W_ADULT, 0);
            } else {
                readValue();
                int how = reader.token;
                if (!isComparison(how)) {
                    reader.note(1);
                }
                reader.take();
                readValue();
                step(how, 0);
            }
        }

        private static boolean isComparison(int sign) {
            return sign == '=' || sign == UNEQUAL || sign == '<' || sign == AT_MOST || sign == '>' || sign == AT_LEAST;
        }

        private void readPoint() {
            reader.take();
            reader.expect('(');
            long x = reader.takeNumber();
            reader.expect(',');
            step(W_HAS, x * FINEST + reader.takeNumber());
            reader.expect(')');
        }

        private void readValue() {
            int sign = 0;
            for (int terms = 0; terms <= TAPE_BYTES; terms++) {
                readFactor();
                for (int factors = 0; reader.token == '*' && factors <= TAPE_BYTES; factors++) {
                    reader.take();
                    readFactor();
                    step('*', 0);
                }
                if (terms > 0) {
                    step(sign, 0);
                }
                sign = reader.token;
                if (sign != '+' && sign != '-') {
                    return;
                }
                reader.take();
            }
        }

        private void readFactor() {
            int first = reader.token;
            if (first == '(') {
                if (opens()) {
                    readValue();
                    open--;
                    reader.expect(')');
                }
            } else if (first == NUMBER) {
                step(NUMBER, reader.told());
                reader.take();
            } else if (first >= W_AREA && first <= W_POINTS || first == W_LOTS) {
                reader.take();
                step(first, 0);
            } else {
                reader.note(1);
            }
        }
    }

    /** A FIGURE, from its lowest CORNER on with the inside on the left. */
    private static final class Figure {
        final int[] x = new int[MOST_CORNERS];
        final int[] y = new int[MOST_CORNERS];
        int size = 0;

        void clear() {
            size = 0;
        }

        void add(int px, int py) {
            if (size < MOST_CORNERS) {
                x[size] = px;
                y[size] = py;
                size++;
            }
        }

        void copy(Figure other) {
            clear();
            for (int i = 0; i < other.size; i++) {
                add(other.x[i], other.y[i]);
            }
        }

        int next(int corner) {
            return corner + 1 < size ? corner + 1 : 0;
        }

        int area() {
            int area = 0;
            for (int i = 0; i < size; i++) {
                int j = next(i);
                area += x[i] * y[j] - x[j] * y[i];
            }
            return area;
        }

        /** Where a point is whose x and y are told in parts of 1 / scale. */
        int where(long px, long py, int scale) {
            boolean in = false;
            for (int i = 0; i < size; i++) {
                int j = next(i);
                long ax = (long) x[i] * scale;
                long ay = (long) y[i] * scale;
                long bx = (long) x[j] * scale;
                long by = (long) y[j] * scale;
                long turn = (bx - ax) * (py - ay) - (by - ay) * (px - ax);
                if (turn == 0 && px >= Math.min(ax, bx) && px <= Math.max(ax, bx)
                    && py >= Math.min(ay, by) && py <= Math.max(ay, by)) {
                    return ON_BORDER;
                }
                // one end counts and the other not, so that a ray through a corner meets the border once
                boolean passes = (ay > py) != (by > py);
                if (passes && (by > ay ? turn > 0 : turn < 0)) {
                    in = !in;
                }
            }
            return in ? IN : OUT;
        }

        /** The corner at which the stretch with the point begins (it is no point of its end), or NONE. */
        int stretchOf(int px, int py) {
            for (int i = 0; i < size; i++) {
                int j = next(i);
                boolean end = px == x[j] && py == y[j];
                if (!end && isOn(x[i], y[i], x[j], y[j], px, py)) {
                    return i;
                }
            }
            return NONE;
        }

        boolean holdsAny(Deed told) {
            for (int i = 0; i < told.points; i++) {
                if (where(told.x[i], told.y[i], 1) != OUT) {
                    return true;
                }
            }
            return false;
        }

        /** Whether the borders have a stretch in common. */
        boolean isNear(Figure other) {
            for (int i = 0; i < size; i++) {
                int j = next(i);
                for (int k = 0; k < other.size; k++) {
                    int l = other.next(k);
                    boolean straight = turn(x[i], y[i], x[j], y[j], other.x[k], other.y[k]) == 0
                        && turn(x[i], y[i], x[j], y[j], other.x[l], other.y[l]) == 0;
                    if (straight && (overlap(x[i], x[j], other.x[k], other.x[l])
                        || overlap(y[i], y[j], other.y[k], other.y[l]))) {
                        return true;
                    }
                }
            }
            return false;
        }

        private static boolean overlap(int a, int b, int c, int d) {
            return Math.max(Math.min(a, b), Math.min(c, d)) < Math.min(Math.max(a, b), Math.max(c, d));
        }
    }

    /** Cuts FIGURES and joins them: the outcome is in its own FIGURES till the next time. */
    private static final class Plane {
        final Figure left = new Figure();
        final Figure right = new Figure();
        final Figure whole = new Figure();
        /** The points of a border as it comes, straight ones too. */
        private final int[] rawX = new int[MOST_EDGES];
        private final int[] rawY = new int[MOST_EDGES];
        private int raw = 0;
        private final int[] fromX = new int[MOST_EDGES];
        private final int[] fromY = new int[MOST_EDGES];
        private final int[] toX = new int[MOST_EDGES];
        private final int[] toY = new int[MOST_EDGES];
        private final boolean[] shared = new boolean[MOST_EDGES];
        private int edges = 0;

        /** Whether the POINTS of a DEED are a CUT; left and right are the parts then. */
        boolean cut(Figure figure, Deed told) {
            int last = told.points - 1;
            if (last < 1 || told.x[0] == told.x[last] && told.y[0] == told.y[last]) {
                return false;
            }
            for (int i = 0; i <= last; i++) {
                int due = i == 0 || i == last ? ON_BORDER : IN;
                if (figure.where(told.x[i], told.y[i], 1) != due) {
                    return false;
                }
            }
            for (int i = 0; i < last; i++) {
                if (!isInside(figure, told, i) || meetsLater(told, i)) {
                    return false;
                }
            }
            layCut(told, 0, 1);
            layBorder(figure, told.x[last], told.y[last], told.x[0], told.y[0]);
            boolean both = close(left);
            layCut(told, last, -1);
            layBorder(figure, told.x[0], told.y[0], told.x[last], told.y[last]);
            return close(right) && both;
        }

        /** Whether a stretch of a CUT lies inside but for its ends, of which the FIGURE was asked before. */
        private boolean isInside(Figure figure, Deed told, int i) {
            int px = told.x[i];
            int py = told.y[i];
            int qx = told.x[i + 1];
            int qy = told.y[i + 1];
            for (int k = 0; k < figure.size; k++) {
                int l = figure.next(k);
                int ax = figure.x[k];
                int ay = figure.y[k];
                boolean end = ax == px && ay == py || ax == qx && ay == qy;
                if (!end && isOn(px, py, qx, qy, ax, ay)) {
                    return false;
                }
                int bx = figure.x[l];
                int by = figure.y[l];
                if (turn(px, py, qx, qy, ax, ay) * turn(px, py, qx, qy, bx, by) < 0
                    && turn(ax, ay, bx, by, px, py) * turn(ax, ay, bx, by, qx, qy) < 0) {
                    return false;
                }
            }
            return figure.where(px + qx, py + qy, 2) == IN;
        }

        /** Whether stretch i of a CUT has a point in common with one behind it that it may not have. */
        private static boolean meetsLater(Deed told, int i) {
            int ax = told.x[i];
            int ay = told.y[i];
            int bx = told.x[i + 1];
            int by = told.y[i + 1];
            if (ax == bx && ay == by) {
                return true;
            }
            for (int j = i + 1; j + 1 < told.points; j++) {
                int cx = told.x[j];
                int cy = told.y[j];
                int dx = told.x[j + 1];
                int dy = told.y[j + 1];
                boolean meets = isOn(ax, ay, bx, by, dx, dy) || isOn(cx, cy, dx, dy, ax, ay);
                if (j > i + 1) {
                    meets = meets || isOn(ax, ay, bx, by, cx, cy) || isOn(cx, cy, dx, dy, bx, by)
                        || turn(ax, ay, bx, by, cx, cy) * turn(ax, ay, bx, by, dx, dy) < 0
                        && turn(cx, cy, dx, dy, ax, ay) * turn(cx, cy, dx, dy, bx, by) < 0;
                }
                if (meets) {
                    return true;
                }
            }
            return false;
        }

        private void lay(int px, int py) {
            if (raw < MOST_EDGES) {
                rawX[raw] = px;
                rawY[raw] = py;
                raw++;
            }
        }

        private void layCut(Deed told, int from, int by) {
            raw = 0;
            for (int i = from; i >= 0 && i < told.points; i += by) {
                lay(told.x[i], told.y[i]);
            }
        }

        /** The corners that come behind one point of the border and ahead of another one. */
        private void layBorder(Figure figure, int px, int py, int qx, int qy) {
            int from = figure.stretchOf(px, py);
            int to = figure.stretchOf(qx, qy);
            if (from < 0 || to < 0) {
                return;
            }
            int steps = to - from;
            int ahead = Math.abs(qx - figure.x[from]) + Math.abs(qy - figure.y[from])
                - Math.abs(px - figure.x[from]) - Math.abs(py - figure.y[from]);
            if (steps < 0 || steps == 0 && ahead < 0) {
                steps += figure.size;
            }
            int corner = from;
            for (int i = 0; i < steps; i++) {
                corner = figure.next(corner);
                if (figure.x[corner] != qx || figure.y[corner] != qy) {
                    lay(figure.x[corner], figure.y[corner]);
                }
            }
        }

        /** Makes the points that were laid a FIGURE; false where it has too many CORNERS. */
        private boolean close(Figure into) {
            int lowest = 0;
            for (int i = 1; i < raw; i++) {
                if (rawY[i] < rawY[lowest] || rawY[i] == rawY[lowest] && rawX[i] < rawX[lowest]) {
                    lowest = i;
                }
            }
            into.clear();
            for (int k = 0; k < raw; k++) {
                int i = lowest + k < raw ? lowest + k : lowest + k - raw;
                int before = i > 0 ? i - 1 : raw - 1;
                int behind = i + 1 < raw ? i + 1 : 0;
                if (turn(rawX[before], rawY[before], rawX[i], rawY[i], rawX[behind], rawY[behind]) != 0) {
                    if (into.size >= MOST_CORNERS) {
                        return false;
                    }
                    into.add(rawX[i], rawY[i]);
                }
            }
            return into.size > 2;
        }

        /** Whether two FIGURES are JOINED to a FIGURE: the whole then. */
        boolean join(Figure a, Figure b) {
            edges = 0;
            layEdges(a, b);
            int first = edges;
            layEdges(b, a);
            int start = NONE;
            int left = dropShared(first);
            for (int i = 0; i < first && start < 0; i++) {
                start = shared[i] ? NONE : i;
            }
            if (left == edges || start < 0) {
                return false;
            }
            raw = 0;
            int edge = start;
            for (int i = 0; i < left; i++) {
                lay(fromX[edge], fromY[edge]);
                edge = onlyEdgeFrom(toX[edge], toY[edge]);
                if (edge < 0 || edge == start) {
                    return edge == start && i + 1 == left && close(whole);
                }
            }
            return false;
        }

        /** The stretches of a FIGURE, parted at the corners of another one that lie on them. */
        private void layEdges(Figure figure, Figure other) {
            for (int i = 0; i < figure.size; i++) {
                int j = figure.next(i);
                int px = figure.x[i];
                int py = figure.y[i];
                for (int parts = 0; parts <= MOST_CORNERS; parts++) {
                    int k = nearestOn(other, px, py, figure.x[j], figure.y[j]);
                    if (k < 0) {
                        break;
                    }
                    layEdge(px, py, other.x[k], other.y[k]);
                    px = other.x[k];
                    py = other.y[k];
                }
                layEdge(px, py, figure.x[j], figure.y[j]);
            }
        }

        private void layEdge(int px, int py, int qx, int qy) {
            if (edges < MOST_EDGES) {
                fromX[edges] = px;
                fromY[edges] = py;
                toX[edges] = qx;
                toY[edges] = qy;
                shared[edges] = false;
                edges++;
            }
        }

        /** The corner that comes first between two points, neither of which it is; or NONE. */
        private static int nearestOn(Figure figure, int px, int py, int qx, int qy) {
            int found = NONE;
            int least = 0;
            for (int k = 0; k < figure.size; k++) {
                int cx = figure.x[k];
                int cy = figure.y[k];
                int far = Math.abs(cx - px) + Math.abs(cy - py);
                boolean end = far == 0 || cx == qx && cy == qy;
                if (!end && (found < 0 || far < least) && isOn(px, py, qx, qy, cx, cy)) {
                    found = k;
                    least = far;
                }
            }
            return found;
        }

        /** Gives how many edges are left, when those are dropped that both have, the other way round each. */
        private int dropShared(int first) {
            int left = edges;
            for (int i = 0; i < first; i++) {
                for (int j = first; j < edges; j++) {
                    if (fromX[i] == toX[j] && fromY[i] == toY[j] && toX[i] == fromX[j] && toY[i] == fromY[j]) {
                        shared[i] = true;
                        shared[j] = true;
                        left -= 2;
                    }
                }
            }
            return left;
        }

        /** NONE also where there are two: the border touches itself there. */
        private int onlyEdgeFrom(int px, int py) {
            int found = NONE;
            for (int i = 0; i < edges; i++) {
                if (!shared[i] && fromX[i] == px && fromY[i] == py) {
                    if (found >= 0) {
                        return NONE;
                    }
                    found = i;
                }
            }
            return found;
        }
    }

    /** A row of numbers (of LOTS, CHARGES or PERSONS), each in it once. */
    private static final class Row {
        private final int[] members = new int[MOST_IN_ROW];
        int size = 0;

        void clear() {
            size = 0;
        }

        int get(int at) {
            return at >= 0 && at < size ? members[at] : NONE;
        }

        int find(int member) {
            for (int i = 0; i < size; i++) {
                if (members[i] == member) {
                    return i;
                }
            }
            return NONE;
        }

        boolean has(int member) {
            return find(member) >= 0;
        }

        void insert(int at, int member) {
            if (at < 0 || at > size || size >= MOST_IN_ROW) {
                return;
            }
            for (int i = size; i > at; i--) {
                members[i] = members[i - 1];
            }
            members[at] = member;
            size++;
        }

        void add(int member) {
            insert(size, member);
        }

        void remove(int member) {
            int at = find(member);
            if (at < 0) {
                return;
            }
            size--;
            for (int i = at; i < size; i++) {
                members[i] = members[i + 1];
            }
        }

        void copy(Row other) {
            size = 0;
            for (int i = 0; i < other.size; i++) {
                add(other.members[i]);
            }
        }

        boolean isSame(Row other) {
            if (size != other.size) {
                return false;
            }
            for (int i = 0; i < size; i++) {
                if (members[i] != other.members[i]) {
                    return false;
                }
            }
            return true;
        }

        /** Puts up to two in the place of one; NONE is put nowhere. */
        void part(int old, int first, int second) {
            int at = find(old);
            if (at < 0) {
                return;
            }
            remove(old);
            if (second >= 0) {
                insert(at, second);
            }
            if (first >= 0) {
                insert(at, first);
            }
        }

        /** Puts one in the place of the first of two, of which both go. */
        void merge(int one, int other, int into) {
            for (int i = 0; i < size; i++) {
                if (members[i] == one || members[i] == other) {
                    members[i] = into;
                    remove(one);
                    remove(other);
                    return;
                }
            }
        }
    }

    /** A LOT. Its shares have room for as many OWNERS as a DEED may bring before they are counted. */
    private static final class Lot {
        long word = 0;
        boolean gone = false;
        int price = 0;
        final Figure figure = new Figure();
        final Row charges = new Row();
        final int[] who = new int[MOST_OWNERS + MOST_PARTS];
        final long[] top = new long[MOST_OWNERS + MOST_PARTS];
        final long[] bottom = new long[MOST_OWNERS + MOST_PARTS];
        int owners = 0;

        void begin(long called) {
            word = called;
            gone = false;
            price = 0;
            figure.clear();
            charges.clear();
            owners = 0;
        }

        int placeOf(int person) {
            for (int i = 0; i < owners; i++) {
                if (who[i] == person) {
                    return i;
                }
            }
            return NONE;
        }

        void copyOwners(Lot other) {
            owners = other.owners;
            for (int i = 0; i < owners; i++) {
                who[i] = other.who[i];
                top[i] = other.top[i];
                bottom[i] = other.bottom[i];
            }
        }

        void own(int person) {
            owners = 0;
            give(person, 1, 1);
        }

        void give(int person, long shareTop, long shareBottom) {
            int at = placeOf(person);
            if (at < 0) {
                if (owners >= who.length) {
                    return;
                }
                at = owners;
                owners++;
                who[at] = person;
                top[at] = 0;
                bottom[at] = 1;
            }
            put(at, top[at] * shareBottom + shareTop * bottom[at], bottom[at] * shareBottom);
        }

        /** False where the PERSON has less. */
        boolean takeOff(int person, long shareTop, long shareBottom) {
            int at = placeOf(person);
            if (at < 0 || top[at] * shareBottom < shareTop * bottom[at]) {
                return false;
            }
            put(at, top[at] * shareBottom - shareTop * bottom[at], bottom[at] * shareBottom);
            if (top[at] == 0) {
                owners--;
                for (int i = at; i < owners; i++) {
                    who[i] = who[i + 1];
                    top[i] = top[i + 1];
                    bottom[i] = bottom[i + 1];
                }
            }
            return true;
        }

        private void put(int at, long newTop, long newBottom) {
            long divisor = commonDivisor(newTop, newBottom);
            top[at] = newTop / divisor;
            bottom[at] = newBottom / divisor;
        }

        boolean isTooFine() {
            for (int i = 0; i < owners; i++) {
                if (bottom[i] > FINEST) {
                    return true;
                }
            }
            return false;
        }

        boolean hasSameOwners(Lot other) {
            for (int i = 0; i < owners; i++) {
                int at = other.placeOf(who[i]);
                if (at < 0 || top[i] != other.top[at] || bottom[i] != other.bottom[at]) {
                    return false;
                }
            }
            return owners == other.owners;
        }
    }

    /** What is no LOT. A SALE is one, too: it has no NAME of its own, but else the same fields serve it. */
    private static final class Thing {
        long word = 0;
        int made = 0;
        boolean gone = false;
        /** The DAY from which on it is not there any more. */
        int until = FOREVER;
        /** Its first DAY; of a PERSON the DAY of birth. */
        int first = NONE;
        /** CREDITOR, TENANT, BY whom, HOLDER, seller; GUARDIAN or DIRECTOR. */
        int who = NONE;
        /** DEBT or RENT; of a natural PERSON the DAY from which on it is OF AGE. */
        int amount = 0;
        /** The KIND of a SERVE; 1: a PERSON that is a FIRM. */
        int kind = 0;
        boolean taken = false;
        /** Its LOTS; of a SERVE those that it is OF, of a SALE the one that was sold. */
        final Row lots = new Row();
        /** The LOTS that a SERVE is OVER; the buyers of a SALE. */
        final Row over = new Row();
        /** The DEED that made it: the POINTS of a SERVE, the PARTS of a SALE. */
        Deed deed;
        long shareTop = 0;
        long shareBottom = 1;

        Thing(Deed none) {
            deed = none;
        }

        void begin(long called, Deed told, int at) {
            word = called;
            deed = told;
            made = at;
            gone = false;
            until = FOREVER;
            first = NONE;
            who = NONE;
            amount = 0;
            kind = 0;
            taken = false;
            lots.size = 0;
            over.size = 0;
            shareTop = 0;
            shareBottom = 1;
        }

        boolean isThere(int day) {
            return !gone && day < until;
        }
    }

    /** A VIEW: what there is, and what became of each ENTRY. */
    private static final class World {
        private final Lot[] lots = new Lot[MOST[LOT]];
        private final Thing[] things = new Thing[MOST_THINGS];
        private final Lot noLot = new Lot();
        private final Thing noThing = new Thing(new Deed());
        final int[] size = new int[ALL_SORTS];
        final int[] fate = new int[MOST_ENTRIES];
        /** The ENTRY that tells a DEED as it holds. */
        private final int[] teller = new int[MOST_ENTRIES];
        /** The DEEDS in the order in which they are gone through: which ENTRY each is, and as it holds. */
        final int[] order = new int[MOST_ENTRIES];
        final Deed[] deeds = new Deed[MOST_ENTRIES];
        int ordered = 0;
        int done = 0;
        int day = 0;
        private int ofDay = NONE;
        private int ofKnown = NONE;
        private int ofEntries = 0;

        World() {
            Deed none = noThing.deed;
            for (int i = 0; i < lots.length; i++) {
                lots[i] = new Lot();
            }
            for (int i = 0; i < things.length; i++) {
                things[i] = new Thing(none);
            }
            for (int i = 0; i < deeds.length; i++) {
                deeds[i] = none;
            }
        }

        boolean isOf(int wantedDay, int known, int entries) {
            return ofDay == wantedDay && ofKnown == known && ofEntries == entries;
        }

        void forget() {
            ofDay = NONE;
        }

        /** What there is before all DEEDS. */
        void begin(int wantedDay, int known, int entries) {
            ofDay = wantedDay;
            ofKnown = known;
            ofEntries = Math.min(entries, MOST_ENTRIES);
            day = 0;
            done = 0;
            ordered = 0;
            for (int sort = 0; sort < ALL_SORTS; sort++) {
                size[sort] = 0;
            }
            add(PERSON, CROWN_NAME, noThing.deed, 0);
            at(PERSON, CROWN).kind = 1;
            Lot land = lot(addLot(LAND_NAME));
            land.own(CROWN);
            land.figure.add(0, 0);
            land.figure.add(SIDE, 0);
            land.figure.add(SIDE, SIDE);
            land.figure.add(0, SIDE);
        }

        /** Which ENTRIES are known, which ORDERS count, and what they do to DEEDS. */
        void weighOrders(Deed[] entries) {
            for (int i = 0; i < ofEntries; i++) {
                boolean known = entries[i].came <= ofKnown;
                teller[i] = i;
                fate[i] = !known ? UNKNOWN : entries[i].order == 0 ? DONE : COUNTS;
            }
            for (int i = ofEntries - 1; i >= 0; i--) {
                int target = entries[i].target - 1;
                if (fate[i] != COUNTS || target < 0 || target >= i) {
                    continue;
                }
                if (entries[i].order == W_ANNUL) {
                    fate[target] = entries[target].order == 0 ? VOID : COUNTS_NOT;
                } else if (teller[target] == target) {
                    teller[target] = i;
                }
            }
        }

        /** Puts the DEEDS in order that are gone through. */
        void lineUp(Deed[] entries) {
            for (int i = 0; i < ofEntries; i++) {
                if (fate[i] != DONE) {
                    continue;
                }
                Deed deed = entries[teller[i]];
                if (deed.day > ofDay) {
                    fate[i] = LATER;
                    continue;
                }
                int at = ordered;
                while (at > 0 && deeds[at - 1].day > deed.day) {
                    deeds[at] = deeds[at - 1];
                    order[at] = order[at - 1];
                    at--;
                }
                deeds[at] = deed;
                order[at] = i;
                ordered++;
            }
        }

        void settle(int at, int outcome) {
            fate[order[at]] = outcome;
            if (outcome == DONE) {
                done++;
            }
        }

        Lot lot(int number) {
            return number >= 0 && number < size[LOT] ? lots[number] : noLot;
        }

        Thing at(int sort, int number) {
            if (sort <= LOT || sort >= ALL_SORTS || number < 0 || number >= size[sort]) {
                return noThing;
            }
            return things[FIRST[sort] + number];
        }

        boolean isFull(int sort) {
            return size[sort] >= MOST[sort];
        }

        /** Gives its number; none is made where there is no room. */
        int addLot(long called) {
            if (isFull(LOT)) {
                return NONE;
            }
            lots[size[LOT]].begin(called);
            size[LOT]++;
            return size[LOT] - 1;
        }

        Thing add(int sort, long called, Deed told, int made) {
            if (isFull(sort)) {
                return noThing;
            }
            Thing thing = things[FIRST[sort] + size[sort]];
            thing.begin(called, told, made);
            size[sort]++;
            return thing;
        }

        boolean isThere(int sort, int number) {
            return sort == LOT ? !lot(number).gone : at(sort, number).isThere(day);
        }

        long nameOf(int sort, int number) {
            return sort == LOT ? lot(number).word : at(sort, number).word;
        }

        /** SORT * BASE + number of what has that NAME, or NONE. */
        int find(long called) {
            for (int i = 0; i < size[LOT]; i++) {
                if (lots[i].word == called) {
                    return LOT * BASE + i;
                }
            }
            for (int sort = PERSON; sort < NAMED_SORTS; sort++) {
                for (int i = 0; i < size[sort]; i++) {
                    if (things[FIRST[sort] + i].word == called) {
                        return sort * BASE + i;
                    }
                }
            }
            return NONE;
        }

        int howMany(int sort) {
            int many = 0;
            for (int i = 0; i < size[sort]; i++) {
                many += isThere(sort, i) ? 1 : 0;
            }
            return many;
        }

        /** The number of the one that is told by its place among those of its SORT that are there, or NONE. */
        int numberOf(int sort, int place) {
            if (sort < 0 || sort >= NAMED_SORTS || place < 0) {
                return NONE;
            }
            int ahead = 0;
            for (int i = 0; i < size[sort]; i++) {
                if (isThere(sort, i)) {
                    if (ahead == place) {
                        return i;
                    }
                    ahead++;
                }
            }
            return NONE;
        }

        boolean isOfAge(int person) {
            Thing thing = at(PERSON, person);
            return thing.kind == 1 || day >= thing.amount;
        }

        boolean isAble(int person) {
            Thing thing = at(PERSON, person);
            if (person == CROWN || thing.kind == 0 && isOfAge(person)) {
                return true;
            }
            return thing.who >= 0 && at(PERSON, thing.who).isThere(day) && isOfAge(thing.who);
        }

        int lotsAt(int px, int py, int wanted) {
            int many = 0;
            for (int i = 0; i < size[LOT]; i++) {
                if (!lots[i].gone && lots[i].figure.where(px, py, 1) == wanted) {
                    many++;
                }
            }
            return many;
        }

        /** What thing() tells. */
        int fact(int sort, int number, int what) {
            if (what < 0 || sort < 0 || sort >= NAMED_SORTS || what >= FACTS[sort]) {
                return NONE;
            }
            Thing thing = at(sort, number);
            switch (sort) {
                case LOT: return lotFact(lot(number), what);
                case PERSON: return personFact(number, what);
                case CHARGE: return what == 0 ? thing.amount : thing.lots.size;
                case SERVE: return serveFact(thing, what);
                case LEASE: return leaseFact(thing, what);
                default: return what == 0 ? thing.until : thing.lots.size;
            }
        }

        private static int lotFact(Lot lot, int what) {
            switch (what) {
                case 0: return lot.figure.area();
                case 1: return lot.figure.size;
                case 2: return lot.owners;
                case 3: return lot.charges.size;
                default: return lot.price;
            }
        }

        private int personFact(int number, int what) {
            switch (what) {
                case 0: return at(PERSON, number).kind;
                case 1: return at(PERSON, number).first;
                case 2: return isOfAge(number) ? 1 : 0;
                default: return isAble(number) ? 1 : 0;
            }
        }

        private static int serveFact(Thing serve, int what) {
            switch (what) {
                case 0: return serve.kind;
                case 1: return serve.lots.size;
                case 2: return serve.over.size;
                default: return serve.deed.points;
            }
        }

        private static int leaseFact(Thing lease, int what) {
            switch (what) {
                case 0: return lease.amount;
                case 1: return lease.lots.size;
                case 2: return lease.first;
                default: return lease.until;
            }
        }

        int ownerFact(Lot lot, int k, int what) {
            if (k < 0 || k >= lot.owners) {
                return NONE;
            }
            if (what > 0) {
                return (int) (what == 1 ? lot.top[k] : lot.bottom[k]);
            }
            int ahead = 0;
            for (int i = 0; i < lot.who[k]; i++) {
                ahead += isThere(PERSON, i) ? 1 : 0;
            }
            return ahead;
        }

        private static long mix(long sum, long next) {
            return sum * 1000003L ^ next;
        }

        long mixIn(long before, int sort, int number) {
            long sum = mix(before, nameOf(sort, number));
            for (int what = 0; what < FACTS[sort]; what++) {
                sum = mix(sum, fact(sort, number, what));
            }
            if (sort == LOT) {
                return mixLot(sum, lot(number));
            }
            if (sort == PERSON) {
                return sum;
            }
            Thing thing = at(sort, number);
            for (int i = 0; i < thing.lots.size; i++) {
                sum = mix(sum, lot(thing.lots.get(i)).word);
            }
            for (int i = 0; i < thing.over.size; i++) {
                sum = mix(sum, lot(thing.over.get(i)).word);
            }
            return sort == SERVE ? sum : mix(sum, at(PERSON, thing.who).word);
        }

        private long mixLot(long before, Lot lot) {
            long sum = before;
            for (int i = 0; i < lot.figure.size; i++) {
                sum = mix(mix(sum, lot.figure.x[i]), lot.figure.y[i]);
            }
            for (int i = 0; i < lot.owners; i++) {
                for (int what = 0; what < 3; what++) {
                    sum = mix(sum, ownerFact(lot, i, what));
                }
            }
            for (int i = 0; i < lot.charges.size; i++) {
                sum = mix(sum, at(CHARGE, lot.charges.get(i)).word);
            }
            return sum;
        }
    }

    /** Goes about what DEEDS tell. Each act looks whether it FAILS before it changes anything. */
    private static final class Acts {
        private World world;
        private Deed deed;
        private int made = 0;
        /** What the NAMES of the DEED stand for: SORTS, and numbers in them. */
        private final int[] sorts = new int[MOST_TOLD];
        private final int[] refs = new int[MOST_TOLD];
        private final Plane plane = new Plane();
        private final Lot draft = new Lot();

        Acts(World any, Deed none) {
            world = any;
            deed = none;
        }

        int perform(World in, Deed told, int at) {
            world = in;
            deed = told;
            made = at;
            world.day = deed.day;
            if (!findNames()) {
                return BAD_NAME;
            }
            switch (deed.act) {
                case W_PERSON: return makePerson();
                case W_FIRM: return makeFirm();
                case W_GUARD: return guard();
                case W_DEATH: return die();
                case W_CLOSE: return closeFirm();
                case W_SELL: return sell();
                case W_SPLIT: return split();
                case W_JOIN: return join();
                case W_BORDER: return moveBorder();
                case W_CHARGE: return charge();
                case W_PAY: return pay();
                case W_ASSIGN: return assign();
                case W_RANK: return rank();
                case W_FREE: return free();
                case W_AUCTION: return auction();
                case W_SERVE: return serve();
                case W_WAIVE: return waive();
                case W_LEASE: return lease();
                case W_CAUTION: return caution();
                case W_OPTION: return option();
                case W_TAKE: return takeSale();
                default: return endTerm();
            }
        }

        private boolean findNames() {
            for (int i = 0; i < deed.told; i++) {
                int found = world.find(deed.names[i]);
                int want = deed.wants[i];
                if (want == NEW) {
                    if (found >= 0 || deed.isToldBefore(i)) {
                        return false;
                    }
                    continue;
                }
                if (found < 0) {
                    return false;
                }
                sorts[i] = found / BASE;
                refs[i] = found % BASE;
                if (!fits(want, sorts[i], refs[i])) {
                    return false;
                }
            }
            return true;
        }

        private boolean fits(int want, int sort, int number) {
            if (!world.isThere(sort, number)) {
                return false;
            }
            switch (want) {
                case NATURAL: return sort == PERSON && world.at(PERSON, number).kind == 0;
                case FIRM: return sort == PERSON && number != CROWN && world.at(PERSON, number).kind == 1;
                case ENDABLE: return sort == LEASE || sort == CAUTION || sort == OPTION;
                default: return sort == want;
            }
        }

        private boolean areOwnersAble(int lot) {
            Lot of = world.lot(lot);
            for (int i = 0; i < of.owners; i++) {
                if (!world.isAble(of.who[i])) {
                    return false;
                }
            }
            return true;
        }

        /** Whether there is a CAUTION on the LOT by another one than is told (NONE: by anyone). */
        private boolean isBarred(int lot, int but) {
            for (int i = 0; i < world.size[CAUTION]; i++) {
                Thing caution = world.at(CAUTION, i);
                if (caution.isThere(world.day) && caution.lots.has(lot) && caution.who != but) {
                    return true;
                }
            }
            return false;
        }

        private Thing make(int sort) {
            Thing thing = world.add(sort, deed.names[0], deed, made);
            thing.first = deed.day;
            return thing;
        }

        private int makePerson() {
            if (deed.date > deed.day) {
                return BAD_TIME;
            }
            if (world.isFull(PERSON)) {
                return FULL;
            }
            Thing person = make(PERSON);
            person.first = deed.date;
            person.amount = fullAgeOf(deed.date);
            return DONE;
        }

        private int makeFirm() {
            if (!world.isOfAge(refs[1])) {
                return NO_RIGHT;
            }
            if (world.isFull(PERSON)) {
                return FULL;
            }
            Thing firm = make(PERSON);
            firm.first = NONE;
            firm.kind = 1;
            firm.who = refs[1];
            return DONE;
        }

        private int guard() {
            if (world.isOfAge(refs[0])) {
                return BAD_STATE;
            }
            if (!world.isOfAge(refs[1])) {
                return NO_RIGHT;
            }
            world.at(PERSON, refs[0]).who = refs[1];
            return DONE;
        }

        /** Whether one is told among the PARTS, that begin at one of the NAMES, or one of them twice. */
        private boolean arePartsMixed(int from, int person) {
            for (int i = from; i < deed.told; i++) {
                if (refs[i] == person) {
                    return true;
                }
                for (int j = from; j < i; j++) {
                    if (refs[i] == refs[j]) {
                        return true;
                    }
                }
            }
            return false;
        }

        private int die() {
            int dead = refs[0];
            if (deed.parts > 0 && (arePartsMixed(1, dead) || !deed.isWhole())) {
                return BAD_SHARE;
            }
            boolean full = false;
            for (int i = 0; i < world.size[LOT]; i++) {
                if (draftHeirs(i, dead)) {
                    if (draft.isTooFine()) {
                        return BAD_SHARE;
                    }
                    full = full || draft.owners > MOST_OWNERS;
                }
            }
            if (full) {
                return FULL;
            }
            for (int i = 0; i < world.size[LOT]; i++) {
                if (draftHeirs(i, dead)) {
                    world.lot(i).copyOwners(draft);
                }
            }
            endRightsOf(dead, deed.parts > 0 ? refs[1] : CROWN);
            world.at(PERSON, dead).gone = true;
            return DONE;
        }

        /** Drafts the OWNERS of a LOT behind a death; false where the dead one has no share in it. */
        private boolean draftHeirs(int number, int dead) {
            Lot lot = world.lot(number);
            int at = lot.placeOf(dead);
            if (lot.gone || at < 0) {
                return false;
            }
            draft.copyOwners(lot);
            draft.takeOff(dead, lot.top[at], lot.bottom[at]);
            if (deed.parts == 0) {
                draft.give(CROWN, lot.top[at], lot.bottom[at]);
            }
            for (int i = 0; i < deed.parts; i++) {
                draft.give(refs[i + 1], lot.top[at] * deed.partTop[i], lot.bottom[at] * deed.partBottom[i]);
            }
            return true;
        }

        private void endRightsOf(int dead, int heir) {
            for (int sort = CHARGE; sort <= OPTION; sort++) {
                for (int i = 0; i < world.size[sort]; i++) {
                    Thing thing = world.at(sort, i);
                    if (thing.who == dead && sort == CHARGE) {
                        thing.who = heir;
                    } else if (thing.who == dead) {
                        thing.gone = true;
                    }
                }
            }
        }

        private int closeFirm() {
            int firm = refs[0];
            for (int i = 0; i < world.size[LOT]; i++) {
                if (!world.lot(i).gone && world.lot(i).placeOf(firm) >= 0) {
                    return BURDEN;
                }
            }
            for (int sort = CHARGE; sort <= OPTION; sort++) {
                for (int i = 0; i < world.size[sort] && sort != CAUTION; i++) {
                    Thing thing = world.at(sort, i);
                    if (thing.isThere(world.day) && thing.who == firm) {
                        return BURDEN;
                    }
                }
            }
            endRightsOf(firm, CROWN);
            world.at(PERSON, firm).gone = true;
            return DONE;
        }

        private int sell() {
            Lot lot = world.lot(refs[0]);
            int seller = refs[1];
            int at = lot.placeOf(seller);
            if (!world.isAble(seller) || at < 0) {
                return NO_RIGHT;
            }
            boolean all = deed.shareTop == 0;
            long top = all ? lot.top[at] : deed.shareTop;
            long bottom = all ? lot.bottom[at] : deed.shareBottom;
            if (lot.top[at] * bottom < top * lot.bottom[at] || arePartsMixed(2, seller) || !deed.isWhole()) {
                return BAD_SHARE;
            }
            if (isBarred(refs[0], seller)) {
                return BARRED;
            }
            draft.copyOwners(lot);
            draft.takeOff(seller, top, bottom);
            for (int i = 0; i < deed.parts; i++) {
                draft.give(refs[i + 2], top * deed.partTop[i], bottom * deed.partBottom[i]);
            }
            if (draft.isTooFine()) {
                return BAD_SHARE;
            }
            if (draft.owners > MOST_OWNERS || world.isFull(SALE)) {
                return FULL;
            }
            lot.copyOwners(draft);
            lot.price = deed.number;
            recordSale(top, bottom);
            return DONE;
        }

        private void recordSale(long top, long bottom) {
            Thing sale = make(SALE);
            sale.who = refs[1];
            sale.lots.add(refs[0]);
            sale.shareTop = top;
            sale.shareBottom = bottom;
            for (int i = 0; i < deed.parts; i++) {
                sale.over.add(refs[i + 2]);
            }
        }

        private int split() {
            int old = refs[0];
            Lot lot = world.lot(old);
            if (!areOwnersAble(old)) {
                return NO_RIGHT;
            }
            if (isBarred(old, NONE)) {
                return BARRED;
            }
            if (!plane.cut(lot.figure, deed)) {
                return NO_FIGURE;
            }
            if (world.size[LOT] + 2 > MOST[LOT] || isSplitTooMany(old)) {
                return FULL;
            }
            int first = makeLot(deed.names[1], lot, plane.left);
            int second = makeLot(deed.names[2], lot, plane.right);
            lot.gone = true;
            for (int sort = CHARGE; sort <= OPTION; sort++) {
                for (int i = 0; i < world.size[sort]; i++) {
                    Thing thing = world.at(sort, i);
                    if (thing.isThere(world.day)) {
                        thing.lots.part(old, first, second);
                        partOver(thing.over, thing.deed, old, first, second);
                    }
                }
            }
            return DONE;
        }

        private void partOver(Row over, Deed told, int old, int first, int second) {
            if (over.has(old)) {
                boolean onFirst = plane.left.holdsAny(told);
                boolean onSecond = plane.right.holdsAny(told);
                over.part(old, onFirst ? first : NONE, onSecond ? second : NONE);
            }
        }

        /** Whether a row of LOTS grows too long, when both parts of a LOT stand in its place. */
        private boolean isSplitTooMany(int old) {
            for (int sort = CHARGE; sort <= OPTION; sort++) {
                for (int i = 0; i < world.size[sort]; i++) {
                    Thing thing = world.at(sort, i);
                    if (!thing.isThere(world.day)) {
                        continue;
                    }
                    if (thing.lots.size >= MOST_IN_ROW && thing.lots.has(old)) {
                        return true;
                    }
                    if (thing.over.size >= MOST_IN_ROW && thing.over.has(old)
                        && plane.left.holdsAny(thing.deed) && plane.right.holdsAny(thing.deed)) {
                        return true;
                    }
                }
            }
            return false;
        }

        private int makeLot(long called, Lot like, Figure figure) {
            int number = world.addLot(called);
            Lot lot = world.lot(number);
            lot.copyOwners(like);
            lot.charges.copy(like.charges);
            lot.figure.copy(figure);
            return number;
        }

        private int join() {
            int one = refs[0];
            int other = refs[1];
            Lot a = world.lot(one);
            Lot b = world.lot(other);
            if (one == other) {
                return BAD_NAME;
            }
            if (!areOwnersAble(one) || !areOwnersAble(other)) {
                return NO_RIGHT;
            }
            if (!a.hasSameOwners(b)) {
                return BAD_SHARE;
            }
            if (isBarred(one, NONE) || isBarred(other, NONE)) {
                return BARRED;
            }
            if (!a.charges.isSame(b.charges) || !areOnBoth(LEASE, one, other) || !areOnBoth(OPTION, one, other)) {
                return BURDEN;
            }
            if (!plane.join(a.figure, b.figure)) {
                return NO_FIGURE;
            }
            if (world.isFull(LOT)) {
                return FULL;
            }
            int into = makeLot(deed.names[2], a, plane.whole);
            a.gone = true;
            b.gone = true;
            mergeRows(one, other, into);
            return DONE;
        }

        private boolean areOnBoth(int sort, int one, int other) {
            for (int i = 0; i < world.size[sort]; i++) {
                Thing thing = world.at(sort, i);
                if (thing.isThere(world.day) && thing.lots.has(one) != thing.lots.has(other)) {
                    return false;
                }
            }
            return true;
        }

        private void mergeRows(int one, int other, int into) {
            for (int sort = CHARGE; sort <= OPTION; sort++) {
                for (int i = 0; i < world.size[sort]; i++) {
                    Thing thing = world.at(sort, i);
                    if (!thing.isThere(world.day)) {
                        continue;
                    }
                    thing.lots.merge(one, other, into);
                    thing.over.merge(one, other, into);
                    if (sort == SERVE && thing.lots.has(into)) {
                        thing.over.remove(into);
                        thing.gone = thing.over.size == 0;
                    }
                }
            }
        }

        private int moveBorder() {
            int one = refs[0];
            int other = refs[1];
            Lot a = world.lot(one);
            Lot b = world.lot(other);
            if (one == other) {
                return BAD_NAME;
            }
            if (!areOwnersAble(one) || !areOwnersAble(other)) {
                return NO_RIGHT;
            }
            if (isBarred(one, NONE) || isBarred(other, NONE)) {
                return BARRED;
            }
            if (!plane.join(a.figure, b.figure) || !plane.cut(plane.whole, deed)) {
                return NO_FIGURE;
            }
            for (int i = 0; i < world.size[SERVE]; i++) {
                Thing serve = world.at(SERVE, i);
                boolean lost = serve.over.has(one) && !plane.left.holdsAny(serve.deed)
                    || serve.over.has(other) && !plane.right.holdsAny(serve.deed);
                if (lost && serve.isThere(world.day)) {
                    return BURDEN;
                }
            }
            a.figure.copy(plane.left);
            b.figure.copy(plane.right);
            return DONE;
        }

        private int charge() {
            int last = deed.told - 1;
            boolean able = true;
            boolean barred = false;
            boolean full = world.isFull(CHARGE);
            for (int i = 1; i < last; i++) {
                for (int j = 1; j < i; j++) {
                    if (refs[i] == refs[j]) {
                        return BAD_NAME;
                    }
                }
                able = able && areOwnersAble(refs[i]);
                barred = barred || isBarred(refs[i], NONE);
                full = full || world.lot(refs[i]).charges.size >= MOST_IN_ROW;
            }
            if (!able) {
                return NO_RIGHT;
            }
            if (barred) {
                return BARRED;
            }
            if (deed.number == 0) {
                return BAD_SHARE;
            }
            if (full || last < 1) {
                return FULL;
            }
            int number = world.size[CHARGE];
            Thing charge = make(CHARGE);
            charge.who = refs[last];
            charge.amount = deed.number;
            for (int i = 1; i < last; i++) {
                charge.lots.add(refs[i]);
                world.lot(refs[i]).charges.add(number);
            }
            return DONE;
        }

        private int pay() {
            Thing charge = world.at(CHARGE, refs[0]);
            if (deed.number == 0 || deed.number > charge.amount) {
                return BAD_SHARE;
            }
            charge.amount -= deed.number;
            if (charge.amount == 0) {
                endCharge(refs[0]);
            }
            return DONE;
        }

        private void endCharge(int number) {
            Thing charge = world.at(CHARGE, number);
            for (int i = 0; i < charge.lots.size; i++) {
                world.lot(charge.lots.get(i)).charges.remove(number);
            }
            charge.lots.clear();
            charge.gone = true;
        }

        private void freeLot(int lot, int number) {
            Thing charge = world.at(CHARGE, number);
            world.lot(lot).charges.remove(number);
            leaveLot(charge, lot);
        }

        private void leaveLot(Thing thing, int lot) {
            thing.lots.remove(lot);
            if (thing.lots.size == 0) {
                thing.gone = true;
            }
        }

        private int assign() {
            Thing charge = world.at(CHARGE, refs[0]);
            if (!world.isAble(charge.who)) {
                return NO_RIGHT;
            }
            if (charge.who == refs[1]) {
                return BAD_STATE;
            }
            charge.who = refs[1];
            return DONE;
        }

        private int rank() {
            Row charges = world.lot(refs[2]).charges;
            int from = charges.find(refs[0]);
            int to = charges.find(refs[1]);
            if (from < 0 || to < 0 || from <= to) {
                return BAD_STATE;
            }
            charges.remove(refs[0]);
            charges.insert(to, refs[0]);
            return DONE;
        }

        private int free() {
            if (!world.lot(refs[0]).charges.has(refs[1])) {
                return BAD_STATE;
            }
            freeLot(refs[0], refs[1]);
            return DONE;
        }

        private int auction() {
            int sold = refs[0];
            Lot lot = world.lot(sold);
            Thing charge = world.at(CHARGE, refs[1]);
            int from = lot.charges.find(refs[1]);
            if (from < 0) {
                return BAD_STATE;
            }
            if (!world.isAble(refs[2])) {
                return NO_RIGHT;
            }
            if (isBarred(sold, charge.who)) {
                return BARRED;
            }
            if (deed.number == 0) {
                return BAD_SHARE;
            }
            lot.own(refs[2]);
            lot.price = deed.number;
            int left = deed.number;
            for (int i = 0; i < MOST_IN_ROW && lot.charges.size > from; i++) {
                int number = lot.charges.get(from);
                Thing paid = world.at(CHARGE, number);
                int part = Math.min(left, paid.amount);
                left -= part;
                paid.amount -= part;
                freeLot(sold, number);
                if (paid.amount == 0) {
                    endCharge(number);
                }
            }
            clearLot(sold, charge.made);
            return DONE;
        }

        /** What goes with an auction beside CHARGES. */
        private void clearLot(int sold, int chargeMade) {
            for (int sort = LEASE; sort <= OPTION; sort++) {
                for (int i = 0; i < world.size[sort]; i++) {
                    Thing thing = world.at(sort, i);
                    boolean stays = sort == LEASE && thing.made < chargeMade;
                    if (!stays && thing.isThere(world.day) && thing.lots.has(sold)) {
                        leaveLot(thing, sold);
                    }
                }
            }
        }

        private int serve() {
            int of = refs[1];
            int over = refs[2];
            if (of == over) {
                return BAD_STATE;
            }
            if (!areOwnersAble(over)) {
                return NO_RIGHT;
            }
            if (isBarred(over, NONE)) {
                return BARRED;
            }
            for (int i = 0; i < deed.points; i++) {
                boolean twice = false;
                for (int j = 0; j < i; j++) {
                    twice = twice || deed.x[i] == deed.x[j] && deed.y[i] == deed.y[j];
                }
                if (twice || world.lot(over).figure.where(deed.x[i], deed.y[i], 1) == OUT) {
                    return NO_FIGURE;
                }
            }
            if (world.isFull(SERVE)) {
                return FULL;
            }
            Thing serve = make(SERVE);
            serve.kind = deed.kind;
            serve.lots.add(of);
            serve.over.add(over);
            return DONE;
        }

        private int waive() {
            Thing serve = world.at(SERVE, refs[0]);
            for (int i = 0; i < serve.lots.size; i++) {
                if (!areOwnersAble(serve.lots.get(i))) {
                    return NO_RIGHT;
                }
            }
            serve.gone = true;
            return DONE;
        }

        private int lease() {
            int lot = refs[1];
            if (deed.date <= deed.day) {
                return BAD_TIME;
            }
            if (!areOwnersAble(lot) || !world.isAble(refs[2])) {
                return NO_RIGHT;
            }
            if (isBarred(lot, NONE)) {
                return BARRED;
            }
            for (int i = 0; i < world.size[LEASE]; i++) {
                Thing other = world.at(LEASE, i);
                if (other.isThere(world.day) && other.lots.has(lot)) {
                    return BURDEN;
                }
            }
            if (world.isFull(LEASE)) {
                return FULL;
            }
            makeTerm(LEASE, deed.date).amount = deed.number;
            return DONE;
        }

        private Thing makeTerm(int sort, int until) {
            Thing term = make(sort);
            term.lots.add(refs[1]);
            term.who = refs[2];
            term.until = until;
            return term;
        }

        private int caution() {
            if (world.isFull(CAUTION)) {
                return FULL;
            }
            makeTerm(CAUTION, deed.day + CAUTION_DAYS);
            return DONE;
        }

        private int option() {
            if (deed.date <= deed.day) {
                return BAD_TIME;
            }
            if (!areOwnersAble(refs[1])) {
                return NO_RIGHT;
            }
            if (isBarred(refs[1], NONE)) {
                return BARRED;
            }
            if (world.isFull(OPTION)) {
                return FULL;
            }
            makeTerm(OPTION, deed.date);
            return DONE;
        }

        private int takeSale() {
            Thing option = world.at(OPTION, refs[0]);
            if (!world.isAble(option.who)) {
                return NO_RIGHT;
            }
            int number = latestSale(option);
            if (number < 0) {
                return BAD_STATE;
            }
            Thing sale = world.at(SALE, number);
            Lot lot = world.lot(sale.lots.get(0));
            draft.copyOwners(lot);
            for (int i = 0; i < sale.deed.parts; i++) {
                long top = sale.shareTop * sale.deed.partTop[i];
                if (!draft.takeOff(sale.over.get(i), top, sale.shareBottom * sale.deed.partBottom[i])) {
                    return BAD_SHARE;
                }
            }
            // the PARTS are 1 together, so what was given to all of them is the share that was sold
            draft.give(option.who, sale.shareTop, sale.shareBottom);
            if (draft.isTooFine()) {
                return BAD_SHARE;
            }
            if (draft.owners > MOST_OWNERS) {
                return FULL;
            }
            lot.copyOwners(draft);
            sale.taken = true;
            return DONE;
        }

        /** The latest SALE that an OPTION may take, or NONE. */
        private int latestSale(Thing option) {
            for (int i = world.size[SALE] - 1; i >= 0; i--) {
                Thing sale = world.at(SALE, i);
                boolean inTime = sale.made > option.made && deed.day - sale.first <= TAKE_DAYS;
                boolean apart = sale.who != option.who && !sale.over.has(option.who);
                if (inTime && apart && !sale.taken && option.lots.has(sale.lots.get(0))) {
                    return i;
                }
            }
            return NONE;
        }

        private int endTerm() {
            Thing term = world.at(sorts[0], refs[0]);
            if (!world.isAble(term.who)) {
                return NO_RIGHT;
            }
            term.gone = true;
            return DONE;
        }
    }

    /** Replies to QUESTIONS. */
    private static final class Asker {
        long answer = 0;
        final byte[] text = new byte[KEPT_BYTES];
        int textSize = 0;
        private World world;
        private Question question;
        /** What the NAMES in the steps of the QUESTION stand for. */
        private final int[] refs = new int[TAPE_BYTES];
        private final long[] stack = new long[TAPE_BYTES];

        Asker(World any, Question none) {
            world = any;
            question = none;
        }

        void reply(World in, Question to) {
            world = in;
            question = to;
            answer = 0;
            textSize = 0;
            if (question.asks == W_SHOW) {
                show(world.find(question.word));
            } else if (question.asks == W_TRACE) {
                trace();
            } else {
                for (int i = 0; i < question.size; i++) {
                    int step = question.steps[i];
                    boolean named = step == W_OWNER || step == W_ON || step == W_NEAR || step == W_NAMED;
                    refs[i] = named ? world.find(question.values[i]) : NONE;
                }
                survey(question.sort);
            }
        }

        private void trace() {
            for (int i = 0; i < world.ordered; i++) {
                int entry = world.order[i];
                if (world.fate[entry] == DONE && world.deeds[i].tells(question.word)) {
                    answer++;
                    putNumber(entry + 1);
                    put(' ');
                }
            }
        }

        private void survey(int sort) {
            int condFrom = question.valueEnd;
            long many = 0;
            long most = 0;
            for (int i = 0; i < world.size[sort]; i++) {
                if (!world.isThere(sort, i)
                    || condFrom < question.size && reckon(condFrom, question.size, sort, i) == 0) {
                    continue;
                }
                long value = reckon(0, condFrom, sort, i);
                answer += question.asks == W_SUM ? value : 1;
                most = many == 0 ? value : Math.max(most, value);
                many++;
                if (question.asks == W_LIST) {
                    putWord(world.nameOf(sort, i));
                    put(' ');
                }
            }
            if (question.asks == W_MOST) {
                answer = most;
            }
        }

        /** Goes through steps for one thing; what holds is 1, what does not 0. Without steps it is 0. */
        private long reckon(int from, int behind, int sort, int number) {
            stack[0] = 0;
            int top = 0;
            for (int i = from; i < behind; i++) {
                int step = question.steps[i];
                if (step == W_NOT) {
                    if (top >= 1) {
                        stack[top - 1] = 1 - stack[top - 1];
                    }
                } else if (isSign(step)) {
                    if (top >= 2) {
                        top--;
                        stack[top - 1] = combine(step, stack[top - 1], stack[top]);
                    }
                } else if (top < stack.length) {
                    stack[top] = step == NUMBER ? question.values[i] : look(i, sort, number);
                    top++;
                }
            }
            return stack[0];
        }

        private static boolean isSign(int step) {
            return step < W_PERSON && step != NUMBER || step == W_AND || step == W_OR;
        }

        private static long combine(int sign, long a, long b) {
            switch (sign) {
                case '+': return a + b;
                case '-': return a - b;
                case '*': return a * b;
                case '=': return a == b ? 1 : 0;
                case UNEQUAL: return a != b ? 1 : 0;
                case '<': return a < b ? 1 : 0;
                case AT_MOST: return a <= b ? 1 : 0;
                case '>': return a > b ? 1 : 0;
                case AT_LEAST: return a >= b ? 1 : 0;
                case W_AND: return a & b;
                default: return a | b;
            }
        }

        private long look(int at, int sort, int number) {
            int step = question.steps[at];
            if (step >= W_AREA || step == W_LOTS) {
                return sort == LOT ? factOfLot(step, world.lot(number)) : factOf(step, sort, number);
            }
            boolean so;
            switch (step) {
                case W_OWNER: so = isOwner(refs[at], sort, number); break;
                case W_ON: so = isOnLot(refs[at], sort, number); break;
                case W_NEAR: so = isNearLot(refs[at], sort, number); break;
                case W_NAMED: so = refs[at] == sort * BASE + number; break;
                case W_HAS: so = sort == LOT && hasPoint(world.lot(number), question.values[at]); break;
                default: so = sort == PERSON && world.isOfAge(number); break;
            }
            return so ? 1 : 0;
        }

        private boolean isOwner(int ref, int sort, int number) {
            if (ref < 0 || ref / BASE != PERSON || sort == PERSON || sort == SERVE) {
                return false;
            }
            int person = ref % BASE;
            return sort == LOT ? world.lot(number).placeOf(person) >= 0 : world.at(sort, number).who == person;
        }

        private boolean isOnLot(int ref, int sort, int number) {
            if (ref < 0 || ref / BASE != LOT || sort == LOT || sort == PERSON) {
                return false;
            }
            Thing thing = world.at(sort, number);
            return sort == SERVE ? thing.over.has(ref % BASE) : thing.lots.has(ref % BASE);
        }

        private boolean isNearLot(int ref, int sort, int number) {
            if (ref < 0 || ref / BASE != LOT || sort != LOT || ref % BASE == number) {
                return false;
            }
            Lot other = world.lot(ref % BASE);
            return !other.gone && world.lot(number).figure.isNear(other.figure);
        }

        private static boolean hasPoint(Lot lot, long point) {
            return lot.figure.where(point / FINEST, point % FINEST, 1) != OUT;
        }

        private long factOfLot(int fact, Lot lot) {
            switch (fact) {
                case W_AREA: return lot.figure.area();
                case W_CORNERS: return lot.figure.size;
                case W_OWNERS: return lot.owners;
                case W_PRICE: return lot.price;
                case W_DEBTS: break;
                default: return 0;
            }
            long debts = 0;
            for (int i = 0; i < lot.charges.size; i++) {
                debts += world.at(CHARGE, lot.charges.get(i)).amount;
            }
            return debts;
        }

        private long factOf(int fact, int sort, int number) {
            Thing thing = world.at(sort, number);
            boolean ends = sort == LEASE || sort == CAUTION || sort == OPTION;
            switch (fact) {
                case W_DEBTS: return sort == PERSON ? debtsTo(number) : sort == CHARGE ? thing.amount : 0;
                case W_AGE: return sort == PERSON && thing.kind == 0 ? yearsBetween(thing.first, world.day) : 0;
                case W_RENT: return sort == LEASE ? thing.amount : 0;
                case W_LEFT: return ends ? thing.until - world.day : 0;
                case W_POINTS: return sort == SERVE ? thing.deed.points : 0;
                case W_LOTS: break;
                default: return 0;
            }
            if (sort == PERSON) {
                return lotsOf(number);
            }
            return sort == SERVE ? thing.over.size : thing.lots.size;
        }

        private long debtsTo(int person) {
            long debts = 0;
            for (int i = 0; i < world.size[CHARGE]; i++) {
                Thing charge = world.at(CHARGE, i);
                debts += charge.isThere(world.day) && charge.who == person ? charge.amount : 0;
            }
            return debts;
        }

        private int lotsOf(int person) {
            int many = 0;
            for (int i = 0; i < world.size[LOT]; i++) {
                Lot lot = world.lot(i);
                many += !lot.gone && lot.placeOf(person) >= 0 ? 1 : 0;
            }
            return many;
        }

        private void show(int found) {
            answer = found < 0 ? NONE : found / BASE;
            if (found < 0) {
                return;
            }
            int sort = found / BASE;
            int number = found % BASE;
            putText(firstWord(sort, world.at(sort, number)));
            thenWord(world.nameOf(sort, number));
            if (!world.isThere(sort, number)) {
                put(' ');
                putText("ended");
                endLine();
            } else if (sort == LOT) {
                showLot(number);
            } else if (sort == PERSON) {
                showPerson(number);
            } else if (sort == CHARGE) {
                showCharge(number);
            } else if (sort == SERVE) {
                showServe(world.at(SERVE, number));
            } else {
                showTerm(sort, world.at(sort, number));
            }
        }

        private static String firstWord(int sort, Thing thing) {
            switch (sort) {
                case LOT: return "lot";
                case PERSON: return thing.kind == 1 ? "firm" : "person";
                case CHARGE: return "charge";
                case SERVE: return "serve";
                case LEASE: return "lease";
                case CAUTION: return "caution";
                default: return "option";
            }
        }

        private void showLot(int number) {
            Lot lot = world.lot(number);
            thenNumber(lot.figure.area());
            endLine();
            putText("at");
            for (int i = 0; i < lot.figure.size; i++) {
                putText(" (");
                putNumber(lot.figure.x[i]);
                put(',');
                putNumber(lot.figure.y[i]);
                put(')');
            }
            endLine();
            for (int i = 0; i < lot.owners; i++) {
                putWord(world.nameOf(PERSON, lot.who[i]));
                thenShare(lot, i);
                endLine();
            }
            for (int i = 0; i < lot.charges.size; i++) {
                putCharge(world.at(CHARGE, lot.charges.get(i)));
            }
            putServes(number, true);
            putServes(number, false);
            for (int sort = LEASE; sort <= OPTION; sort++) {
                putTerms(sort, number);
            }
        }

        private void putCharge(Thing charge) {
            putText("charge");
            thenWord(charge.word);
            thenNumber(charge.amount);
            endLine();
        }

        private void putServes(int lot, boolean of) {
            for (int i = 0; i < world.size[SERVE]; i++) {
                Thing serve = world.at(SERVE, i);
                if (serve.isThere(world.day) && (of ? serve.lots : serve.over).has(lot)) {
                    putText("serve");
                    thenWord(serve.word);
                    thenKind(serve.kind);
                    putText(of ? " of" : " over");
                    endLine();
                }
            }
        }

        private void putTerms(int sort, int lot) {
            for (int i = 0; i < world.size[sort]; i++) {
                Thing term = world.at(sort, i);
                if (term.isThere(world.day) && term.lots.has(lot)) {
                    putText(firstWord(sort, term));
                    thenWord(term.word);
                    thenWord(world.nameOf(PERSON, term.who));
                    if (sort != CAUTION) {
                        thenDate(term.until);
                    }
                    endLine();
                }
            }
        }

        private void showPerson(int number) {
            Thing person = world.at(PERSON, number);
            if (person.kind == 0) {
                thenDate(person.first);
            } else if (number != CROWN) {
                thenWord(world.nameOf(PERSON, person.who));
            }
            endLine();
            for (int i = 0; i < world.size[LOT]; i++) {
                Lot lot = world.lot(i);
                int at = lot.placeOf(number);
                if (!lot.gone && at >= 0) {
                    putWord(lot.word);
                    thenShare(lot, at);
                    endLine();
                }
            }
            for (int i = 0; i < world.size[CHARGE]; i++) {
                Thing charge = world.at(CHARGE, i);
                if (charge.isThere(world.day) && charge.who == number) {
                    putCharge(charge);
                }
            }
        }

        private void showCharge(int number) {
            Thing charge = world.at(CHARGE, number);
            thenWord(world.nameOf(PERSON, charge.who));
            thenNumber(charge.amount);
            endLine();
            for (int i = 0; i < charge.lots.size; i++) {
                Lot lot = world.lot(charge.lots.get(i));
                putText("on");
                thenWord(lot.word);
                thenNumber(lot.charges.find(number) + 1);
                endLine();
            }
        }

        private void showServe(Thing serve) {
            thenKind(serve.kind);
            endLine();
            putLots("of", serve.lots);
            putLots("over", serve.over);
        }

        private void showTerm(int sort, Thing term) {
            thenWord(world.nameOf(PERSON, term.who));
            if (sort == LEASE) {
                thenNumber(term.amount);
            }
            thenDate(term.until);
            endLine();
            putLots("on", term.lots);
        }

        private void putLots(String how, Row lots) {
            for (int i = 0; i < lots.size; i++) {
                putText(how);
                thenWord(world.nameOf(LOT, lots.get(i)));
                endLine();
            }
        }

        private void thenKind(int kind) {
            putText(kind == 0 ? " way" : kind == 1 ? " water" : " light");
        }

        private void thenWord(long word) {
            put(' ');
            putWord(word);
        }

        private void thenNumber(long number) {
            put(' ');
            putNumber(number);
        }

        private void thenShare(Lot lot, int at) {
            put(' ');
            putNumber(lot.top[at]);
            put('/');
            putNumber(lot.bottom[at]);
        }

        private void thenDate(int day) {
            int date = dateOf(day);
            put(' ');
            putTwo(date / 1000000);
            putTwo(date / 10000 % 100);
            put('-');
            putTwo(date / 100 % 100);
            put('-');
            putTwo(date % 100);
        }

        private void endLine() {
            put('\n');
        }

        private void putText(String what) {
            for (int i = 0; i < what.length(); i++) {
                put(what.charAt(i));
            }
        }

        private void putWord(long word) {
            for (int shift = 56; shift >= 0; shift -= 8) {
                int b = (int) (word >> shift) & 255;
                if (b != 0) {
                    put(b);
                }
            }
        }

        private void putNumber(long number) {
            long highest = 1;
            for (int i = 0; i < 18 && number / highest >= 10; i++) {
                highest *= 10;
            }
            for (long unit = highest; unit > 0; unit /= 10) {
                put('0' + (int) (number / unit % 10));
            }
        }

        private void putTwo(int number) {
            put('0' + number / 10 % 10);
            put('0' + number % 10);
        }

        /** Bytes behind those that are kept are counted alone. */
        private void put(int b) {
            if (textSize < KEPT_BYTES) {
                text[textSize] = (byte) b;
            }
            textSize++;
        }
    }
}
