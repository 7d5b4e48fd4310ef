import java.util.Arrays;

/** A street: who likes and hates whom, and what camps can make of it. */
public final class TwoCamps {
    public static final int NONE = -1, BAD = -2, STATE = -3, FULL = -4;
    public static final long NO = -4611686018427387904L;

    private static final int NO_SUCH = -5, NOTHING = -11, OUTSIDE = -12, OTHER_SORT = -13, BELOW_ZERO = -14;
    private static final int FAULT_BASE = -100;

    private static final int MOST_PEOPLE = 9, MOST_FEELINGS = 36, MOST_TEXTS = 6, MOST_CAMPINGS = 10;
    private static final int TAPE_SIZE = 160, SHEETS = 4, SHEET_SIZE = 40;
    private static final int MOST_PRICE = 99, MOST_STRENGTH = 99, MOST_COST = 9999;
    private static final int MOST_ROUNDS = 20, FEELING_CELLS = 5, MOST_FEELS = 8;
    private static final int NO_OTHER = 1000000;

    private static final int CAMPS = 4, ASIDE = 9;
    private static final int CAMPING = 0, TWO = 1, MANY = 2, WEAK = 3, SOME = 4, LED = 5, KINDS = 6;

    /** Which KIND each KIND stands under. */
    private static final int[] UNDER = {-1, CAMPING, CAMPING, MANY, TWO, TWO};
    /** How many camps each KIND may have. */
    private static final int[] ROOM = {4, 2, 4, 3, 2, 2};

    private final People people;
    private final People keptPeople;
    private final Feelings feelings;
    private final Feelings keptFeelings;
    private boolean kept;
    private int keptRule;

    private final Tape tape;
    private final Law law;
    private final TextReader textReader;
    private final StreetReader streetReader;

    private final Camping[] campings;
    private int campingCount;
    private final Camping moved;

    private final Net net;
    private final Best best;

    private final Sheet[] sheets;

    public TwoCamps() {
        people = new People();
        keptPeople = new People();
        feelings = new Feelings();
        keptFeelings = new Feelings();
        tape = new Tape();
        law = new Law(feelings);
        textReader = new TextReader(tape);
        streetReader = new StreetReader(tape, people, feelings);
        campings = new Camping[MOST_CAMPINGS];
        for (int i = 0; i < MOST_CAMPINGS; i++) {
            campings[i] = new Camping(people, feelings, law);
        }
        moved = new Camping(people, feelings, law);
        net = new Net(people, feelings);
        best = new Best(people, feelings, law);
        sheets = new Sheet[SHEETS];
        for (int i = 0; i < SHEETS; i++) {
            sheets[i] = new Sheet();
        }
    }

    // ---- people, feelings

    public int person(int price) {
        if (!isPrice(price)) {
            return BAD;
        }
        if (people.size >= MOST_PEOPLE) {
            return FULL;
        }
        return people.add(price);
    }

    public int set(int what, int person, int v) {
        if (!people.has(person)) {
            return NO_SUCH;
        }
        if (what == 0 && isPrice(v)) {
            int was = people.prices[person];
            people.prices[person] = v;
            return was;
        }
        if (what == 1 && (v == NONE || v == 0 || v == 1)) {
            int was = people.leads[person];
            people.leads[person] = v;
            return was;
        }
        return NO_SUCH;
    }

    public int feel(int a, int b, int sign, int strength, int kinds) {
        if (!people.hasTwo(a, b) || (sign != 1 && sign != -1)) {
            return BAD;
        }
        if (strength < 1 || strength > MOST_STRENGTH || kinds < 0 || kinds > 3) {
            return BAD;
        }
        return feelings.tell(a, b, sign, strength, kinds);
    }

    public int felt(int feeling, int what) {
        if (!feelings.has(feeling)) {
            return NO_SUCH;
        }
        switch (what) {
            case 0: return feelings.lesser[feeling];
            case 1: return feelings.greater[feeling];
            case 2: return feelings.signs[feeling];
            case 3: return feelings.strengths[feeling];
            case 4: return feelings.kinds[feeling] >> 1;
            case 5: return feelings.kinds[feeling] & 1;
            case 6: return law.costOf(feeling);
            case 7: return law.canBeWrong(feeling) ? 1 : 0;
            case 8: return feelings.badThreesWith(feeling);
            default: return NO_SUCH;
        }
    }

    public int between(int a, int b) {
        return people.hasTwo(a, b) ? feelings.find(a, b) : BAD;
    }

    private static boolean isPrice(int price) {
        return price >= 0 && price <= MOST_PRICE;
    }

    // ---- texts, streets

    public int feed(int n, long bytes) {
        if (n < 1 || n > 8) {
            return BAD;
        }
        if (tape.size + n > TAPE_SIZE) {
            return FULL;
        }
        for (int i = 0; i < n; i++) {
            tape.add((int) (bytes >> (8 * i)) & 255);
        }
        return tape.size;
    }

    public int street() {
        int answer = streetReader.isStreet() ? streetReader.tellAll() : FAULT_BASE - streetReader.place;
        tape.size = 0;
        return answer;
    }

    public int text() {
        if (law.textCount >= MOST_TEXTS) {
            return FULL;
        }
        int answer = textReader.isText() ? law.add(textReader.read) : FAULT_BASE - textReader.place();
        tape.size = 0;
        return answer;
    }

    public int force(int text) {
        if (text < 0 || text >= law.textCount) {
            return BAD;
        }
        int was = law.rule;
        law.rule = text;
        return was;
    }

    // ---- campings

    public int camping(int kind, int sheet) {
        if (!isKind(kind) || !isSheet(sheet)) {
            return BAD;
        }
        Sheet camps = sheets[sheet];
        if (!camps.isThere()) {
            return NOTHING;
        }
        if (camps.size != people.size || !tellsCamps(camps)) {
            return BAD;
        }
        if (campingCount >= MOST_CAMPINGS) {
            return FULL;
        }
        campings[campingCount].become(kind, camps);
        campingCount++;
        return campingCount - 1;
    }

    public int camped(int camping, int what) {
        if (!isCamping(camping)) {
            return BAD;
        }
        Camping asked = campings[camping];
        switch (what) {
            case 0: return asked.kind;
            case 1: return ROOM[asked.kind];
            case 2: return asked.usedCamps();
            case 3: return asked.wrongCount();
            case 4: return asked.countIn(ASIDE);
            default: return BAD;
        }
    }

    public long cost(int camping) {
        return isCamping(camping) ? campings[camping].judged() : NO;
    }

    public long move(int camping, int person, int camp) {
        if (!isCamping(camping) || !people.has(person) || !isCamp(camp)) {
            return NO;
        }
        moved.becomeMoved(campings[camping], person, camp);
        return moved.judged() - campings[camping].judged();
    }

    public int same(int a, int b) {
        if (!isCamping(a) || !isCamping(b)) {
            return BAD;
        }
        for (int p = 0; p < people.size; p++) {
            if (!isAlikeFor(p, campings[a], campings[b])) {
                return 0;
            }
        }
        return 1;
    }

    /** Whether a PERSON is aside in both or in none, and with the same ones in both. */
    private boolean isAlikeFor(int person, Camping one, Camping other) {
        int here = one.campOf(person);
        int there = other.campOf(person);
        if ((here == ASIDE) != (there == ASIDE)) {
            return false;
        }
        for (int q = 0; q < person; q++) {
            if ((one.campOf(q) == here) != (other.campOf(q) == there)) {
                return false;
            }
        }
        return true;
    }

    private static boolean tellsCamps(Sheet sheet) {
        for (int i = 0; i < sheet.size; i++) {
            if (!isCamp(sheet.cells[i])) {
                return false;
            }
        }
        return true;
    }

    private static boolean isCamp(int camp) {
        return (camp >= 0 && camp < CAMPS) || camp == ASIDE;
    }

    private static boolean isKind(int kind) {
        return kind >= 0 && kind < KINDS;
    }

    private boolean isCamping(int camping) {
        return camping >= 0 && camping < campingCount;
    }

    /** Whether a KIND is another one or stands under it, also by others between. */
    private static boolean isUnder(int kind, int above) {
        int at = kind;
        for (int i = 0; i < KINDS && isKind(at); i++) {
            if (at == above) {
                return true;
            }
            at = UNDER[at];
        }
        return false;
    }

    // ---- peace

    public int peace() {
        return net.peaceWithout(0);
    }

    public int ring(int i) {
        net.searchRing();
        if (i == -1 && net.ringLength > 0) {
            return net.ringLength;
        }
        return i >= 0 && i < net.ringLength ? net.ringRow[i] : NONE;
    }

    public int least() {
        if (people.size == 0) {
            return NO_SUCH;
        }
        best.search();
        return best.sum;
    }

    public int all(int i) {
        best.search();
        if (i == -1) {
            return best.size;
        }
        return i >= 0 && i < best.size ? best.row[i] : NONE;
    }

    public int together(int a, int b) {
        if (!people.hasTwo(a, b)) {
            return BAD;
        }
        best.search();
        if (best.size == 0) {
            return STATE;
        }
        int times = best.timesTogether(a, b);
        return times == best.size ? 2 : times > 0 ? 1 : 0;
    }

    public int aside() {
        int everybody = (1 << people.size) - 1;
        int found = everybody;
        for (int out = 0; out < everybody; out++) {
            if (people.isCheaper(out, found) && net.peaceWithout(out) != NONE) {
                found = out;
            }
        }
        return found;
    }

    public int many(int k) {
        return k < 1 || k > CAMPS ? BAD : best.leastSumIn(k);
    }

    // ---- parts, steps

    public int part(int person) {
        return people.has(person) ? net.leastOf(person) : BAD;
    }

    public int doors() {
        int doors = 0;
        int whole = net.countWithout(0);
        for (int p = 0; p < people.size; p++) {
            if (net.countWithout(1 << p) > whole) {
                doors |= 1 << p;
            }
        }
        return doors;
    }

    public int threes() {
        int corners = 0;
        for (int f = 0; f < feelings.size; f++) {
            corners += feelings.badThreesWith(f);
        }
        // each THREE was met once from each of its three FEELINGS
        return corners / 3;
    }

    public int step(int person) {
        return people.has(person) ? turnWorst(person) : BAD;
    }

    public int ends(int n) {
        if (n < 0 || n > MOST_ROUNDS) {
            return BAD;
        }
        feelings.keepSigns();
        int found = NONE;
        for (int round = 0; round <= n && found == NONE; round++) {
            if (!turnAll()) {
                found = round;
            }
        }
        feelings.restoreSigns();
        return found;
    }

    /** A ROUND: whether any FEELING turned. */
    private boolean turnAll() {
        boolean turned = false;
        for (int p = 0; p < people.size; p++) {
            if (turnWorst(p) != NONE) {
                turned = true;
            }
        }
        return turned;
    }

    private int turnWorst(int person) {
        int worst = NONE;
        int most = 0;
        for (int f = 0; f < feelings.size; f++) {
            if (feelings.isOf(f, person) && law.canBeWrong(f)) {
                int threes = feelings.badThreesWith(f);
                if (threes > most) {
                    worst = f;
                    most = threes;
                }
            }
        }
        if (worst != NONE) {
            feelings.signs[worst] = -feelings.signs[worst];
        }
        return worst;
    }

    // ---- what follows

    public long meet(int a, int b, int part) {
        if (!people.hasTwo(a, b) || part < 0 || part > 1 || feelings.find(a, b) != NONE) {
            return NO;
        }
        best.search();
        if (best.size == 0) {
            return NO;
        }
        int times = best.timesTogether(a, b);
        int divisor = commonDivisor(times, best.size);
        return divisor == 0 ? NO : (part == 0 ? times : best.size) / divisor;
    }

    public long edge(int feeling) {
        if (!feelings.has(feeling)) {
            return NO;
        }
        best.search();
        return best.size == 0 ? NO : best.edgeOf(feeling);
    }

    public int bring(int person, int other) {
        if (!people.hasTwo(person, other)) {
            return BAD;
        }
        best.search();
        if (best.size == 0 || !isTogether(best.row[0], person, other)) {
            return STATE;
        }
        return best.fewestToTell(person, other);
    }

    public int image() {
        keptPeople.become(people);
        keptFeelings.become(feelings);
        keptRule = law.rule;
        kept = true;
        return feelings.size;
    }

    public int back() {
        if (!kept) {
            return STATE;
        }
        people.takeBack(keptPeople);
        feelings.become(keptFeelings);
        law.rule = keptRule;
        return feelings.size;
    }

    public int count(int what) {
        switch (what) {
            case 0: return people.size;
            case 1: return feelings.size;
            case 2: return law.textCount;
            case 3: return tape.size;
            case 4: return law.rule;
            case 5: return campingCount;
            case 6: return feelings.hatreds();
            case 7: return net.countWithout(0);
            default: return BAD;
        }
    }

    private static int commonDivisor(int a, int b) {
        int big = b;
        int small = a;
        // by Euclid the rest falls to 0 long before it was taken MOST_FEELINGS times
        for (int i = 0; i < MOST_FEELINGS && small != 0; i++) {
            int rest = big % small;
            big = small;
            small = rest;
        }
        return big;
    }

    private static boolean isTogether(int bits, int a, int b) {
        return ((bits >> a ^ bits >> b) & 1) == 0;
    }

    // ---- the host

    public int sheet(int sheet, int sort, int n) {
        if (!isSheet(sheet) || sort < Sheet.MISSING || sort > Sheet.INTS) {
            return BAD;
        }
        if (sort == Sheet.MISSING) {
            sheets[sheet].become(sort, 0);
            return 1;
        }
        if (n > SHEET_SIZE) {
            return BAD;
        }
        if (n < 0) {
            return BELOW_ZERO;
        }
        sheets[sheet].become(sort, n);
        return 1;
    }

    public int cell(int sheet, int i, int v) {
        if (!isSheet(sheet)) {
            return BAD;
        }
        if (!sheets[sheet].isThere()) {
            return NOTHING;
        }
        if (!sheets[sheet].holds(i, 1)) {
            return OUTSIDE;
        }
        sheets[sheet].put(i, v);
        return 1;
    }

    public int copy(int sheet, int i, int other, int j, int n) {
        if (!isSheet(sheet) || !isSheet(other)) {
            return BAD;
        }
        Sheet from = sheets[sheet];
        Sheet to = sheets[other];
        if (!from.isThere() || !to.isThere()) {
            return NOTHING;
        }
        if (from.sort != to.sort) {
            return OTHER_SORT;
        }
        if (!from.holds(i, n) || !to.holds(j, n)) {
            return OUTSIDE;
        }
        System.arraycopy(from.cells, i, to.cells, j, n);
        return n;
    }

    public int feels(int sheet, int sort, int from, int n) {
        if (!isSheet(sheet) || sort < Sheet.BYTES || sort > Sheet.INTS || n < 0 || n > MOST_FEELS) {
            return BAD;
        }
        Sheet told = sheets[sheet];
        // a missing one could be taken for any sort
        if (!told.isThere()) {
            return NOTHING;
        }
        if (told.sort != sort) {
            return OTHER_SORT;
        }
        int came = 0;
        int at = from;
        for (int i = 0; i < n; i++) {
            if (!told.holds(at, FEELING_CELLS)) {
                return OUTSIDE;
            }
            int[] cells = told.cells;
            if (feel(cells[at], cells[at + 1], cells[at + 2], cells[at + 3], cells[at + 4]) >= 0) {
                came++;
            }
            at += FEELING_CELLS;
        }
        return came;
    }

    public int taken(int camping, int k) {
        if (!isKind(k)) {
            return BAD;
        }
        if (!isCamping(camping)) {
            return NOTHING;
        }
        return isUnder(campings[camping].kind, k) ? campings[camping].size : OTHER_SORT;
    }

    private static boolean isSheet(int sheet) {
        return sheet >= 0 && sheet < SHEETS;
    }

    /** Who is there, for what PRICE, and LED where. */
    private static final class People {
        int size;
        final int[] prices = new int[MOST_PEOPLE];
        final int[] leads = new int[MOST_PEOPLE];

        boolean has(int person) {
            return person >= 0 && person < size;
        }

        boolean hasTwo(int a, int b) {
            return has(a) && has(b) && a != b;
        }

        /** The number of a new one, for whom there must be room. */
        int add(int price) {
            prices[size] = price;
            leads[size] = NONE;
            size++;
            return size - 1;
        }

        /** Whether some PEOPLE (bits) stand aside rather than others: fewer, then cheaper ones. */
        boolean isCheaper(int some, int others) {
            int fewer = Integer.bitCount(some) - Integer.bitCount(others);
            return fewer < 0 || (fewer == 0 && priceOf(some) < priceOf(others));
        }

        private int priceOf(int bits) {
            int price = 0;
            for (int p = 0; p < size; p++) {
                if ((bits >> p & 1) == 1) {
                    price += prices[p];
                }
            }
            return price;
        }

        void become(People other) {
            takeBack(other);
            size = other.size;
        }

        /** As they were in an older row; who came since stays. */
        void takeBack(People older) {
            System.arraycopy(older.prices, 0, prices, 0, older.size);
            System.arraycopy(older.leads, 0, leads, 0, older.size);
        }
    }

    /** The FEELINGS, by number and by the two PEOPLE. */
    private static final class Feelings {
        int size;
        final int[] lesser = new int[MOST_FEELINGS];
        final int[] greater = new int[MOST_FEELINGS];
        final int[] signs = new int[MOST_FEELINGS];
        final int[] strengths = new int[MOST_FEELINGS];
        final int[] kinds = new int[MOST_FEELINGS];
        private final int[] numbers = new int[MOST_PEOPLE * MOST_PEOPLE];
        private final int[] keptSigns = new int[MOST_FEELINGS];

        Feelings() {
            Arrays.fill(numbers, NONE);
        }

        boolean has(int feeling) {
            return feeling >= 0 && feeling < size;
        }

        /** The FEELING of two PEOPLE that there are; NONE. */
        int find(int a, int b) {
            return numbers[a * MOST_PEOPLE + b];
        }

        /** The number of the FEELING, new or told anew; all else was looked at. */
        int tell(int a, int b, int sign, int strength, int kind) {
            int feeling = find(a, b);
            if (feeling == NONE) {
                if (size >= MOST_FEELINGS) {
                    return FULL;
                }
                feeling = size;
                size++;
                lesser[feeling] = Math.min(a, b);
                greater[feeling] = Math.max(a, b);
                numbers[a * MOST_PEOPLE + b] = feeling;
                numbers[b * MOST_PEOPLE + a] = feeling;
            }
            signs[feeling] = sign;
            strengths[feeling] = strength;
            kinds[feeling] = kind;
            return feeling;
        }

        boolean isOf(int feeling, int person) {
            return lesser[feeling] == person || greater[feeling] == person;
        }

        int bitsOf(int feeling) {
            return 1 << lesser[feeling] | 1 << greater[feeling];
        }

        /** Whether it is WRONG if its two PEOPLE are together, or are not. */
        boolean isWrong(int feeling, boolean together) {
            return (signs[feeling] > 0) != together;
        }

        /** Whether it is WRONG in two camps, told as bits. */
        boolean isWrongIn(int feeling, int bits) {
            return isWrong(feeling, isTogether(bits, lesser[feeling], greater[feeling]));
        }

        int badThreesWith(int feeling) {
            int threes = 0;
            for (int third = 0; third < MOST_PEOPLE; third++) {
                int one = find(lesser[feeling], third);
                int other = find(greater[feeling], third);
                if (one != NONE && other != NONE && signs[feeling] * signs[one] * signs[other] < 0) {
                    threes++;
                }
            }
            return threes;
        }

        int hatreds() {
            int hatreds = 0;
            for (int f = 0; f < size; f++) {
                if (signs[f] < 0) {
                    hatreds++;
                }
            }
            return hatreds;
        }

        void keepSigns() {
            System.arraycopy(signs, 0, keptSigns, 0, size);
        }

        void restoreSigns() {
            System.arraycopy(keptSigns, 0, signs, 0, size);
        }

        void become(Feelings other) {
            size = other.size;
            System.arraycopy(other.lesser, 0, lesser, 0, MOST_FEELINGS);
            System.arraycopy(other.greater, 0, greater, 0, MOST_FEELINGS);
            System.arraycopy(other.signs, 0, signs, 0, MOST_FEELINGS);
            System.arraycopy(other.strengths, 0, strengths, 0, MOST_FEELINGS);
            System.arraycopy(other.kinds, 0, kinds, 0, MOST_FEELINGS);
            System.arraycopy(other.numbers, 0, numbers, 0, MOST_PEOPLE * MOST_PEOPLE);
        }
    }

    /** Bytes (0 .. 255) that wait to be read. */
    private static final class Tape {
        int size;
        private final int[] bytes = new int[TAPE_SIZE];

        /** Puts a byte behind the others; there must be room. */
        void add(int value) {
            bytes[size] = value;
            size++;
        }

        /** The byte at a place; NONE behind the last. */
        int at(int place) {
            return place >= 0 && place < size ? bytes[place] : NONE;
        }

        /** The digit at a place; NONE if there is none. */
        int digitAt(int place) {
            int value = at(place);
            return value >= '0' && value <= '9' ? value - '0' : NONE;
        }

        boolean isDigit(int place) {
            return digitAt(place) != NONE;
        }

        boolean isLetter(int place) {
            int value = at(place);
            return value >= 'a' && value <= 'z';
        }
    }

    /** Reads THE TAPE as a STREET; it stops at the FAULT. */
    private static final class StreetReader {
        private final Tape tape;
        private final People people;
        private final Feelings feelings;
        int place;
        private int first;
        private int second;
        private int sign;
        private int strength;
        private int kind;

        StreetReader(Tape tape, People people, Feelings feelings) {
            this.tape = tape;
            this.people = people;
            this.feelings = feelings;
        }

        boolean isStreet() {
            place = 0;
            for (int lines = 0; lines < TAPE_SIZE; lines++) {
                if (!readLine()) {
                    return false;
                }
                if (place == tape.size) {
                    return true;
                }
            }
            return false;
        }

        /** Tells the LINES of what was found to be a STREET: how many. */
        int tellAll() {
            place = 0;
            int lines = 0;
            for (; lines < TAPE_SIZE && place < tape.size; lines++) {
                if (readLine()) {
                    feelings.tell(first, second, sign, strength, kind);
                }
            }
            return lines;
        }

        private boolean readLine() {
            first = readPerson(NONE);
            if (first == NONE || !readSign()) {
                return false;
            }
            second = readPerson(first);
            return second != NONE && readStrength() && readKind();
        }

        /** A PERSON, but not a certain one; NONE if there stands none. */
        private int readPerson(int but) {
            int person = tape.at(place) - 'a';
            if (!people.has(person) || person == but) {
                return NONE;
            }
            place++;
            return person;
        }

        private boolean readSign() {
            sign = tape.at(place) == '-' ? -1 : 1;
            return skip('-') || skip('+');
        }

        private boolean readStrength() {
            strength = tape.digitAt(place);
            if (strength == NONE) {
                return false;
            }
            place++;
            int next = tape.digitAt(place);
            // no STREET goes on with a second 0, and none ends the digits behind a first
            if (next != NONE && strength * 10 + next > 0) {
                strength = strength * 10 + next;
                place++;
            }
            return strength > 0;
        }

        private boolean readKind() {
            kind = skip('k') ? 2 : 0;
            if (skip('!')) {
                kind++;
            }
            return skip(';');
        }

        private boolean skip(int value) {
            if (tape.at(place) != value) {
                return false;
            }
            place++;
            return true;
        }
    }

    /** A TEXT laid out to be run: NUMBERS and NAMES, and behind them the TOKENS that join them. */
    private static final class Text {
        // a TOKEN is a NUMBER as it stands, else one of these; of a SIGN its byte, below 0
        static final int END = -1, NO_TOKEN = -2;
        static final int COST = -3, LET = -4, OR = -5, AND = -6, NOT = -7, NEGATE = -8;
        static final int STRENGTH = -9, HATE = -10, KIN = -11, FIXED = -12, LEAST = -13, MOST = -14;
        static final int OPENS = -40, CLOSES = -41, TIMES = -42, PLUS = -43, MINUS = -45;
        static final int SEMICOLON = -59, LESS = -60, EQUAL = -61;

        final int[] tokens = new int[TAPE_SIZE];
        int size;
        /** Where the part behind let begins. */
        int half;

        void clear() {
            size = 0;
            half = 0;
        }

        void become(Text other) {
            size = other.size;
            half = other.half;
            System.arraycopy(other.tokens, 0, tokens, 0, size);
        }

        void add(int token) {
            if (size < TAPE_SIZE) {
                tokens[size] = token;
                size++;
            }
        }

        void endCost() {
            half = size;
        }

        static boolean isName(int token) {
            return token <= STRENGTH && token >= MOST;
        }
    }

    /** Reads THE TAPE as a TEXT; it stops at the FAULT. */
    private static final class TextReader {
        private static final int MOST_OPEN = 5, MOST_DIGITS = 4, MOST_TOKENS = TAPE_SIZE + 1;

        private final Tape tape;
        private final int[] tokens = new int[MOST_TOKENS];
        private final int[] places = new int[MOST_TOKENS];
        private int at;
        private int token;
        final Text read = new Text();

        TextReader(Tape tape) {
            this.tape = tape;
        }

        /** Whether it is one; what was read is laid out then. */
        boolean isText() {
            read.clear();
            layTokens();
            at = 0;
            token = tokens[0];
            if (!skip(Text.COST) || !readOr(0) || !skip(Text.SEMICOLON)) {
                return false;
            }
            read.endCost();
            return skip(Text.LET) && readOr(0) && skip(Text.SEMICOLON) && token == Text.END;
        }

        /** Where the TOKEN begins that is looked at. */
        int place() {
            return places[at];
        }

        /** Lays out the TOKENS up to the end, or up to one that is none. */
        private void layTokens() {
            int end = 0;
            boolean goesOn = true;
            for (int i = 0; i < MOST_TOKENS && goesOn; i++) {
                int from = skipBlanks(end);
                end = endOfToken(from);
                places[i] = from;
                tokens[i] = tokenOf(from, end);
                goesOn = tokens[i] != Text.END && tokens[i] != Text.NO_TOKEN;
            }
        }

        private int skipBlanks(int from) {
            int to = from;
            for (int i = 0; i < TAPE_SIZE && (tape.at(to) == 32 || tape.at(to) == 10); i++) {
                to++;
            }
            return to;
        }

        private int endOfToken(int from) {
            int to = from + 1;
            boolean isWord = tape.isLetter(from);
            boolean isNumber = tape.isDigit(from);
            for (int i = 0; i < TAPE_SIZE && (isWord && tape.isLetter(to) || isNumber && tape.isDigit(to)); i++) {
                to++;
            }
            return to;
        }

        private int tokenOf(int from, int end) {
            int value = tape.at(from);
            if (value == NONE) {
                return Text.END;
            }
            if (tape.isLetter(from)) {
                return wordOf(from, end);
            }
            if (tape.isDigit(from)) {
                return numberOf(from, end);
            }
            switch (value) {
                case '(': case ')': case ';': case '+': case '-': case '*': case '<': case '=': return -value;
                default: return Text.NO_TOKEN;
            }
        }

        private int numberOf(int from, int end) {
            if (end - from > MOST_DIGITS) {
                return Text.NO_TOKEN;
            }
            int number = 0;
            for (int i = from; i < end; i++) {
                number = number * 10 + tape.at(i) - '0';
            }
            return number;
        }

        private int wordOf(int from, int end) {
            if (spells(from, end, "cost")) return Text.COST;
            if (spells(from, end, "let")) return Text.LET;
            if (spells(from, end, "or")) return Text.OR;
            if (spells(from, end, "and")) return Text.AND;
            if (spells(from, end, "not")) return Text.NOT;
            if (spells(from, end, "strength")) return Text.STRENGTH;
            if (spells(from, end, "hate")) return Text.HATE;
            if (spells(from, end, "kin")) return Text.KIN;
            if (spells(from, end, "fixed")) return Text.FIXED;
            if (spells(from, end, "least")) return Text.LEAST;
            if (spells(from, end, "most")) return Text.MOST;
            return Text.NO_TOKEN;
        }

        private boolean spells(int from, int end, String word) {
            if (word.length() != end - from) {
                return false;
            }
            for (int i = 0; i < word.length(); i++) {
                if (tape.at(from + i) != word.charAt(i)) {
                    return false;
                }
            }
            return true;
        }

        private boolean readOr(int open) {
            boolean fits = readAnd(open);
            for (int i = 0; i < TAPE_SIZE && fits && token == Text.OR; i++) {
                fits = skip(Text.OR) && readAnd(open);
                read.add(Text.OR);
            }
            return fits;
        }

        private boolean readAnd(int open) {
            boolean fits = readNot(open);
            for (int i = 0; i < TAPE_SIZE && fits && token == Text.AND; i++) {
                fits = skip(Text.AND) && readNot(open);
                read.add(Text.AND);
            }
            return fits;
        }

        private boolean readNot(int open) {
            if (token != Text.NOT) {
                return readComparison(open);
            }
            boolean fits = open < MOST_OPEN && skip(Text.NOT) && readNot(open + 1);
            read.add(Text.NOT);
            return fits;
        }

        private boolean readComparison(int open) {
            boolean fits = readSum(open);
            int sign = token;
            if (fits && (sign == Text.LESS || sign == Text.EQUAL)) {
                fits = skip(sign) && readSum(open);
                read.add(sign);
            }
            return fits;
        }

        private boolean readSum(int open) {
            boolean fits = readTerm(open);
            for (int i = 0; i < TAPE_SIZE && fits && (token == Text.PLUS || token == Text.MINUS); i++) {
                int sign = token;
                fits = skip(sign) && readTerm(open);
                read.add(sign);
            }
            return fits;
        }

        private boolean readTerm(int open) {
            boolean fits = readOne(open);
            for (int i = 0; i < TAPE_SIZE && fits && token == Text.TIMES; i++) {
                fits = skip(Text.TIMES) && readOne(open);
                read.add(Text.TIMES);
            }
            return fits;
        }

        private boolean readOne(int open) {
            if (token >= 0 || Text.isName(token)) {
                read.add(token);
                return skip(token);
            }
            if (open >= MOST_OPEN) {
                return false;
            }
            if (token == Text.OPENS) {
                return skip(Text.OPENS) && readOr(open + 1) && skip(Text.CLOSES);
            }
            boolean fits = skip(Text.MINUS) && readOne(open + 1);
            read.add(Text.NEGATE);
            return fits;
        }

        /** Goes on behind a TOKEN, if it is the wanted one. */
        private boolean skip(int wanted) {
            if (token != wanted || at + 1 >= MOST_TOKENS) {
                return false;
            }
            at++;
            token = tokens[at];
            return true;
        }
    }

    /** The TEXTS and THE RULE, and what it says of each FEELING. */
    private static final class Law {
        private final Feelings feelings;
        private final Text[] texts = new Text[MOST_TEXTS];
        int textCount = 1;
        int rule;
        /** By FEELING, as weigh() last found it. */
        final int[] costs = new int[MOST_FEELINGS];
        final boolean[] lets = new boolean[MOST_FEELINGS];
        private final int[] stack = new int[TAPE_SIZE];
        private int top;

        Law(Feelings feelings) {
            this.feelings = feelings;
            for (int i = 0; i < MOST_TEXTS; i++) {
                texts[i] = new Text();
            }
            texts[0].add(Text.STRENGTH);
            texts[0].endCost();
            texts[0].add(Text.FIXED);
            texts[0].add(Text.NOT);
        }

        /** The number of one more, for which there must be room. */
        int add(Text text) {
            texts[textCount].become(text);
            textCount++;
            return textCount - 1;
        }

        void weigh() {
            for (int f = 0; f < feelings.size; f++) {
                costs[f] = costOf(f);
                lets[f] = canBeWrong(f);
            }
        }

        int costOf(int feeling) {
            Text text = texts[rule];
            int value = run(text.tokens, 0, text.half, feeling);
            return Math.max(0, Math.min(MOST_COST, value));
        }

        boolean canBeWrong(int feeling) {
            Text text = texts[rule];
            return run(text.tokens, text.half, text.size, feeling) != 0;
        }

        private int run(int[] tokens, int from, int to, int feeling) {
            top = 0;
            for (int i = from; i < to; i++) {
                runOne(tokens[i], feeling);
            }
            return pop();
        }

        private void runOne(int token, int feeling) {
            if (token >= 0) {
                push(token);
            } else if (Text.isName(token)) {
                push(named(token, feeling));
            } else if (token == Text.NEGATE) {
                push(-pop());
            } else if (token == Text.NOT) {
                push(pop() == 0 ? 1 : 0);
            } else {
                int right = pop();
                push(joined(token, pop(), right));
            }
        }

        private int named(int token, int feeling) {
            switch (token) {
                case Text.STRENGTH: return feelings.strengths[feeling];
                case Text.HATE: return feelings.signs[feeling] < 0 ? 1 : 0;
                case Text.KIN: return feelings.kinds[feeling] >> 1;
                case Text.FIXED: return feelings.kinds[feeling] & 1;
                case Text.LEAST: return feelings.lesser[feeling];
                default: return feelings.greater[feeling];
            }
        }

        private static int joined(int token, int left, int right) {
            switch (token) {
                case Text.TIMES: return left * right;
                case Text.PLUS: return left + right;
                case Text.MINUS: return left - right;
                case Text.LESS: return left < right ? 1 : 0;
                case Text.EQUAL: return left == right ? 1 : 0;
                case Text.AND: return left != 0 && right != 0 ? 1 : 0;
                default: return left != 0 || right != 0 ? 1 : 0;
            }
        }

        private void push(int value) {
            if (top < TAPE_SIZE) {
                stack[top] = value;
                top++;
            }
        }

        private int pop() {
            if (top <= 0) {
                return 0;
            }
            top--;
            return stack[top];
        }
    }

    /** A CAMPING: a KIND, and camps of those who were there. */
    private static final class Camping {
        private final People people;
        private final Feelings feelings;
        private final Law law;
        int kind;
        int size;
        private final int[] camps = new int[MOST_PEOPLE];

        Camping(People people, Feelings feelings, Law law) {
            this.people = people;
            this.feelings = feelings;
            this.law = law;
        }

        /** By a SHEET of as many camps as there are PEOPLE. */
        void become(int newKind, Sheet sheet) {
            kind = newKind;
            size = sheet.size;
            System.arraycopy(sheet.cells, 0, camps, 0, size);
        }

        void becomeMoved(Camping other, int person, int camp) {
            kind = other.kind;
            size = people.size;
            for (int p = 0; p < size; p++) {
                camps[p] = other.campOf(p);
            }
            camps[person] = camp;
        }

        /** Who came since is in camp 0. */
        int campOf(int person) {
            return person < size ? camps[person] : 0;
        }

        int usedCamps() {
            int used = 0;
            for (int camp = 0; camp < CAMPS; camp++) {
                if (countIn(camp) > 0) {
                    used++;
                }
            }
            return used;
        }

        int countIn(int camp) {
            int found = 0;
            for (int p = 0; p < people.size; p++) {
                if (campOf(p) == camp) {
                    found++;
                }
            }
            return found;
        }

        int wrongCount() {
            int wrong = 0;
            for (int f = 0; f < feelings.size; f++) {
                if (isWrong(f)) {
                    wrong++;
                }
            }
            return wrong;
        }

        private boolean isWrong(int feeling) {
            int one = campOf(feelings.lesser[feeling]);
            int other = campOf(feelings.greater[feeling]);
            return one != ASIDE && other != ASIDE && feelings.isWrong(feeling, one == other);
        }

        /** COST. */
        long judged() {
            law.weigh();
            long cost = isUnder(kind, MANY) ? 3L * usedCamps() : 0;
            for (int f = 0; f < feelings.size; f++) {
                if (isWrong(f)) {
                    cost += costOfWrong(f);
                }
            }
            for (int p = 0; p < people.size; p++) {
                cost += costOfPerson(p);
            }
            return cost;
        }

        private long costOfWrong(int feeling) {
            boolean isHalf = isUnder(kind, WEAK) && feelings.signs[feeling] < 0;
            int cost = isHalf ? law.costs[feeling] / 2 : law.costs[feeling];
            return law.lets[feeling] ? cost : cost + 100000;
        }

        private long costOfPerson(int person) {
            int camp = campOf(person);
            int cost = 0;
            if (camp == ASIDE) {
                cost += isUnder(kind, SOME) ? people.prices[person] : 7000;
            }
            if (isUnder(kind, TWO) && (camp == 2 || camp == 3)) {
                cost += 5000;
            }
            int lead = people.leads[person];
            if (isUnder(kind, LED) && lead != NONE && lead != camp) {
                cost += 50;
            }
            return cost;
        }
    }

    /** What hangs together, whether two camps let it be, and the RING. */
    private static final class Net {
        /** A walk's places: twice a PERSON, and 1 more behind an odd number of hatreds. */
        private static final int PLACES = 2 * MOST_PEOPLE;

        private final People people;
        private final Feelings feelings;
        /** The RING; of length 0, if there is none. */
        int ringLength;
        final int[] ringRow = new int[PLACES];
        private final int[] queue = new int[PLACES];
        private int queued;
        private final int[] before = new int[PLACES];
        private final int[] steps = new int[PLACES];

        Net(People people, Feelings feelings) {
            this.people = people;
            this.feelings = feelings;
        }

        /** The least PERSON of one's PART. */
        int leastOf(int person) {
            int reached = reach(person, 0);
            int least = 0;
            for (int p = 0; p < person && (reached >> least & 1) == 0; p++) {
                least++;
            }
            return least;
        }

        /** How many PARTS there are without some PEOPLE (bits). */
        int countWithout(int out) {
            int seen = out;
            int found = 0;
            for (int p = 0; p < people.size; p++) {
                if ((seen >> p & 1) == 0) {
                    seen |= reach(p, out);
                    found++;
                }
            }
            return found;
        }

        /** Who hangs together with a PERSON without some PEOPLE, as bits. */
        private int reach(int person, int out) {
            int reached = 1 << person;
            int last = 0;
            for (int i = 0; i < MOST_PEOPLE && reached != last; i++) {
                last = reached;
                for (int f = 0; f < feelings.size; f++) {
                    int two = feelings.bitsOf(f);
                    if ((two & out) == 0 && (two & reached) != 0) {
                        reached |= two;
                    }
                }
            }
            return reached;
        }

        /** PEACE of all but some PEOPLE (bits), who count as in camp 0; NONE. */
        int peaceWithout(int out) {
            int seen = out;
            int camps = 0;
            for (int p = 0; p < people.size; p++) {
                if ((seen >> p & 1) == 0) {
                    camps |= forcedBy(p, out);
                    seen |= reach(p, out);
                }
            }
            for (int f = 0; f < feelings.size; f++) {
                if ((feelings.bitsOf(f) & out) == 0 && feelings.isWrongIn(f, camps)) {
                    return NONE;
                }
            }
            return camps;
        }

        /** Who of a PERSON's PART goes to the other camp than it, each by the FEELING that reaches it first. */
        private int forcedBy(int person, int out) {
            int reached = 1 << person;
            int last = 0;
            int camps = 0;
            for (int i = 0; i < MOST_PEOPLE && reached != last; i++) {
                last = reached;
                for (int f = 0; f < feelings.size; f++) {
                    int two = feelings.bitsOf(f);
                    int newcomer = two & ~reached;
                    if ((two & out) == 0 && Integer.bitCount(newcomer) == 1) {
                        reached |= two;
                        if (feelings.isWrongIn(f, camps)) {
                            camps |= newcomer;
                        }
                    }
                }
            }
            return camps;
        }

        void searchRing() {
            ringLength = 0;
            for (int p = 0; p < people.size; p++) {
                walk(p);
                keepIfShorter(p);
            }
        }

        private void walk(int first) {
            Arrays.fill(before, NONE);
            queued = 0;
            arrive(2 * first, 2 * first, 0);
            for (int i = 0; i < PLACES && i < queued; i++) {
                leave(queue[i]);
            }
        }

        private void leave(int place) {
            int person = place / 2;
            for (int other = 0; other < people.size; other++) {
                int feeling = feelings.find(person, other);
                if (feeling != NONE) {
                    int odd = feelings.signs[feeling] < 0 ? 1 : 0;
                    arrive(2 * other + (place % 2 ^ odd), place, steps[place] + 1);
                }
            }
        }

        private void arrive(int place, int from, int step) {
            if (before[place] == NONE && queued < PLACES) {
                before[place] = from;
                steps[place] = step;
                queue[queued] = place;
                queued++;
            }
        }

        private void keepIfShorter(int first) {
            int last = 2 * first + 1;
            if (before[last] == NONE || (ringLength > 0 && steps[last] >= ringLength)) {
                return;
            }
            ringLength = steps[last];
            int place = last;
            for (int i = ringLength - 1; i >= 0; i--) {
                place = before[place];
                ringRow[i] = place / 2;
            }
        }
    }

    /** LEAST, ALL, and what follows of them. */
    private static final class Best {
        private final People people;
        private final Feelings feelings;
        private final Law law;
        /** LEAST; NONE. */
        int sum;
        /** ALL. */
        int size;
        final int[] row = new int[1 << (MOST_PEOPLE - 1)];
        private final int[] camps = new int[MOST_PEOPLE];
        private int mostCamps;
        private int leastSpread;

        Best(People people, Feelings feelings, Law law) {
            this.people = people;
            this.feelings = feelings;
            this.law = law;
        }

        void search() {
            law.weigh();
            sum = NONE;
            size = 0;
            // by twos: PERSON 0 is in camp 0
            for (int bits = 0; bits < pastCampings(); bits += 2) {
                int here = sumOf(bits);
                if (here != NONE && (sum == NONE || here < sum)) {
                    sum = here;
                    size = 0;
                }
                if (here != NONE && here == sum && size < row.length) {
                    row[size] = bits;
                    size++;
                }
            }
        }

        /** The bits past those of all campings of all PEOPLE into two camps. */
        private int pastCampings() {
            // with nobody there is no PERSON 0 to be in camp 0, and so no camping
            return people.size == 0 ? 0 : 1 << people.size;
        }

        /** What is WRONG in two camps costs so much together; NONE: something is that can't be. */
        private int sumOf(int bits) {
            int cost = 0;
            for (int f = 0; f < feelings.size; f++) {
                if (feelings.isWrongIn(f, bits)) {
                    if (!law.lets[f]) {
                        return NONE;
                    }
                    cost += law.costs[f];
                }
            }
            return cost;
        }

        int timesTogether(int a, int b) {
            int times = 0;
            for (int i = 0; i < size; i++) {
                if (isTogether(row[i], a, b)) {
                    times++;
                }
            }
            return times;
        }

        int edgeOf(int feeling) {
            int wrong = 0;
            for (int i = 0; i < size; i++) {
                if (feelings.isWrongIn(feeling, row[i])) {
                    wrong++;
                }
            }
            if (wrong > 0 && wrong < size) {
                return 0;
            }
            int other = leastSumWith(feeling, wrong == 0);
            if (other == NONE) {
                return NO_OTHER;
            }
            return wrong == 0 ? other - sum : sum - other;
        }

        private int leastSumWith(int feeling, boolean wrong) {
            int found = NONE;
            for (int bits = 0; bits < pastCampings(); bits += 2) {
                if (feelings.isWrongIn(feeling, bits) == wrong) {
                    int here = sumOf(bits);
                    if (here != NONE && (found == NONE || here < found)) {
                        found = here;
                    }
                }
            }
            return found;
        }

        /** BRING: the fewest others, as bits; NONE. */
        int fewestToTell(int person, int other) {
            int two = 1 << person | 1 << other;
            int found = NONE;
            for (int told = 0; told < 1 << people.size; told++) {
                boolean isFewer = found == NONE || Integer.bitCount(told) < Integer.bitCount(found);
                if ((told & two) == 0 && isFewer && isEnough(told, person, other)) {
                    found = told;
                }
            }
            return found;
        }

        /** Whether two are together in each of ALL that has some as the first one has them. */
        private boolean isEnough(int told, int person, int other) {
            // the first of ALL has them so itself: no camping that has them so costs less than LEAST
            for (int i = 0; i < size; i++) {
                if (((row[i] ^ row[0]) & told) == 0 && !isTogether(row[i], person, other)) {
                    return false;
                }
            }
            return true;
        }

        /** The least sum in so many camps at most; NONE. */
        int leastSumIn(int k) {
            law.weigh();
            mostCamps = k;
            leastSpread = NONE;
            spread(0, 0, 0);
            return leastSpread;
        }

        /** Puts one PERSON behind the other into a camp. */
        private void spread(int person, int used, int sum) {
            if (leastSpread != NONE && sum >= leastSpread) {
                return;
            }
            if (person >= people.size) {
                leastSpread = sum;
                return;
            }
            // of the empty camps one will do: they differ in their names alone
            for (int camp = 0; camp < mostCamps && camp <= used; camp++) {
                putInto(camp, person, used, sum);
            }
        }

        private void putInto(int camp, int person, int used, int sum) {
            camps[person] = camp;
            int more = costOfLast(person);
            if (more != NONE) {
                spread(person + 1, Math.max(used, camp + 1), sum + more);
            }
        }

        /** What is WRONG between a PERSON and those ahead; NONE: something is that can't be. */
        private int costOfLast(int person) {
            int cost = 0;
            for (int ahead = 0; ahead < person; ahead++) {
                int feeling = feelings.find(ahead, person);
                if (feeling != NONE && feelings.isWrong(feeling, camps[ahead] == camps[person])) {
                    if (!law.lets[feeling]) {
                        return NONE;
                    }
                    cost += law.costs[feeling];
                }
            }
            return cost;
        }
    }

    /** A row of numbers of a sort, or missing. */
    private static final class Sheet {
        static final int MISSING = -1, BYTES = 0, SHORTS = 1, INTS = 2;

        int sort = MISSING;
        int size;
        final int[] cells = new int[SHEET_SIZE];

        boolean isThere() {
            return sort != MISSING;
        }

        void become(int newSort, int newSize) {
            sort = newSort;
            size = newSize;
            Arrays.fill(cells, 0);
        }

        /** Whether n items from one on all lie in it; n below 0 never. */
        boolean holds(int i, int n) {
            return i >= 0 && n >= 0 && i <= size && n <= size - i;
        }

        void put(int i, int v) {
            cells[i] = sort == BYTES ? (byte) v : sort == SHORTS ? (short) v : v;
        }
    }
}
