import java.util.Arrays;

/**
 * Rows of islands over fires: a floor read from a text, hills with dates and needles, and what
 * stories, rows and houses say of them.
 *
 * <p>Every argument is tested in the public call that takes it; the classes inside take numbers
 * that were tested there. All rows are made once, in the constructor, since the calls of a run
 * share one room.
 */
public final class FireRows {
    public static final int NONE = -1000000, BAD = -1000001, STATE = -1000002, FULL = -1000003;

    private static final int FINDINGS = -1000010, FAULTS = -1000100;
    private static final int NULL = 1, PLACE = 2, KIND = 3, SIZE = 4, STORE = 5;
    private static final int ITEMS = 40, SHEETS = 8, LANES = 3;
    private static final int OLDEST = 99, FARTHEST = 99999, WIDEST_NEEDLE = 999;
    private static final int HILLS = 12, DATES = 4, MADE = 6, IMAGES = 2;
    /** More than any answer, and than all hills can be off together. */
    private static final int BEYOND_ALL = 1 << 30;

    private final Sheet[] sheets = new Sheet[SHEETS];
    private final Tape tape = new Tape();
    private final Reader reader = new Reader(tape);
    private final World world = new World();
    private final World[] images = new World[IMAGES];
    private final Stories stories = new Stories(world);
    private final Row row = new Row(world.hills);
    private final Turn best = new Turn(world);
    private final Asks asks = new Asks();
    private int latestFault;
    private int latestFinding;

    public FireRows() {
        for (int i = 0; i < SHEETS; i++) {
            sheets[i] = new Sheet();
        }
        for (int k = 0; k < IMAGES; k++) {
            images[k] = new World();
        }
    }

    // ---- sheets

    public int sheet(int sheet, int lane, int n) {
        if (!isBelow(sheet, SHEETS) || !isBelow(lane, LANES) || n > ITEMS) {
            return BAD;
        }
        if (n < 0) {
            return found(SIZE);
        }
        sheets[sheet].begin(lane, n);
        return unfound(n);
    }

    public int set(int sheet, int i, int v) {
        if (!isBelow(sheet, SHEETS)) {
            return BAD;
        }
        if (sheets[sheet].isMissing()) {
            return found(NULL);
        }
        if (!sheets[sheet].has(i, 1)) {
            return found(PLACE);
        }
        return unfound(sheets[sheet].put(i, v));
    }

    public int copy(int a, int i, int b, int j, int n) {
        if (!isBelow(a, SHEETS) || !isBelow(b, SHEETS)) {
            return BAD;
        }
        Sheet from = sheets[a];
        Sheet to = sheets[b];
        if (from.isMissing() || to.isMissing()) {
            return found(NULL);
        }
        if (from.lane != to.lane) {
            return found(STORE);
        }
        if (!from.has(i, n) || !to.has(j, n)) {
            return found(PLACE);
        }
        System.arraycopy(from.item, i, to.item, j, n);
        return unfound(n);
    }

    public int drop(int sheet) {
        if (!isBelow(sheet, SHEETS)) {
            return BAD;
        }
        if (sheets[sheet].isMissing()) {
            return found(NULL);
        }
        return unfound(sheets[sheet].end());
    }

    // ---- floors, hills

    public int feed(long w, int n) {
        if (!isWithin(n, 1, 8)) {
            return BAD;
        }
        if (tape.size + n > Tape.ROOM) {
            return FULL;
        }
        tape.append(w, n);
        return tape.size;
    }

    public int floor() {
        boolean whole = reader.read();
        tape.size = 0;
        if (!whole) {
            latestFault = reader.fault;
            return FAULTS - reader.start;
        }
        world.begin(reader.floor);
        return world.floor.stories.number;
    }

    public int fault() {
        return latestFault;
    }

    public int drift(int age, int what) {
        if (!isAge(age) || !isBelow(what, 2)) {
            return BAD;
        }
        if (!world.isThere()) {
            return STATE;
        }
        return what == 0 ? world.floor.driftX[age] : world.floor.driftY[age];
    }

    public int where(int story, int fire, int age, int what) {
        if (!isStory(story) || !isFireOf(story, fire) || !isAge(age) || !isBelow(what, 2)) {
            return BAD;
        }
        return world.floor.placeOf(story, fire, age, what);
    }

    public int hill(int x, int y) {
        if (!isPlace(x) || !isPlace(y)) {
            return BAD;
        }
        if (!world.isThere()) {
            return STATE;
        }
        if (!world.hills.hasRoom(1)) {
            return FULL;
        }
        world.hills.add(x, y);
        return world.hills.number - 1;
    }

    public int hills(int sheet, int i, int n) {
        if (!isBelow(sheet, SHEETS) || !isWithin(n, 1, HILLS)) {
            return BAD;
        }
        if (!world.isThere()) {
            return STATE;
        }
        if (sheets[sheet].isMissing()) {
            return found(NULL);
        }
        if (!sheets[sheet].has(i, 2 * n)) {
            return found(PLACE);
        }
        int[] item = sheets[sheet].item;
        for (int k = i; k < i + 2 * n; k++) {
            if (!isPlace(item[k])) {
                return BAD;
            }
        }
        if (!world.hills.hasRoom(n)) {
            return FULL;
        }
        for (int k = 0; k < n; k++) {
            world.hills.add(item[i + 2 * k], item[i + 2 * k + 1]);
        }
        return unfound(world.hills.number);
    }

    public int date(int hill, int house, int v) {
        if (!isHill(hill) || !isHouse(house) || !isAge(v)) {
            return BAD;
        }
        if (world.hills.dates[hill] >= DATES) {
            return FULL;
        }
        world.hills.addDate(hill, house, v, world.floor.houses);
        return world.hills.dates[hill];
    }

    public int needle(int hill, int y, int s) {
        if (!isHill(hill) || !isPlace(y) || !isWithin(s, 0, WIDEST_NEEDLE)) {
            return BAD;
        }
        world.hills.needleY[hill] = y;
        world.hills.needleWide[hill] = s;
        return 1;
    }

    public int told(int hill, int what) {
        if (!isHill(hill) || !isBelow(what, 7)) {
            return BAD;
        }
        Hills all = world.hills;
        switch (what) {
            case 0:
                return all.x[hill];
            case 1:
                return all.y[hill];
            case 2:
                return all.dates[hill];
            case 3:
                return all.lower[hill];
            case 4:
                return all.upper[hill];
            case 5:
                return all.again[hill];
            default:
                return all.hasNeedle(hill) ? 1 : 0;
        }
    }

    // ---- stories

    public int nearest(int hill, int story, int what) {
        if (!isHill(hill) || !isStory(story) || !isBelow(what, 4)) {
            return BAD;
        }
        stories.find(hill, story);
        switch (what) {
            case 0:
                return stories.fire;
            case 1:
                return stories.age;
            case 2:
                return stories.off;
            default:
                return stories.fit ? 1 : 0;
        }
    }

    public int fits(int story) {
        return isStory(story) ? stories.fitting(story) : BAD;
    }

    public int odds(int story, int what) {
        if (!isStory(story) || !isBelow(what, 2)) {
            return BAD;
        }
        int above = 0;
        int below = 0;
        for (int s = 0; s < world.floor.stories.number; s++) {
            int weight = stories.weight(s);
            above = s == story ? weight : above;
            below += weight;
        }
        return lowest(above, below, what == 0);
    }

    public int belong(int story, int fire) {
        return isStory(story) && isFireOf(story, fire) ? stories.fittingBy(story, fire) : BAD;
    }

    public int made(int story, int fire, int n) {
        if (!isStory(story) || !isFireOf(story, fire) || !isWithin(n, 1, MADE)) {
            return BAD;
        }
        int every = world.floor.fires.at(fire, Floor.EVERY);
        int coming = every < 1 ? 0 : Math.min(n, OLDEST / every + 1);
        if (!world.hills.hasRoom(coming)) {
            return FULL;
        }
        for (int k = 0; k < coming; k++) {
            int age = k * every;
            world.hills.add(world.floor.placeOf(story, fire, age, 0), world.floor.placeOf(story, fire, age, 1));
        }
        return world.hills.number;
    }

    // ---- rows

    public int pace(int a, int b, int what) {
        if (!isHill(a) || !isHill(b) || a == b || !isBelow(what, 4)) {
            return BAD;
        }
        Hills all = world.hills;
        int ages = what < 2 ? all.upper[a] - all.lower[b] : all.lower[a] - all.upper[b];
        return ages <= 0 ? NONE : lowest(all.apart(a, b), ages, what % 2 == 0);
    }

    public int even(int sheet, int i, int n) {
        int refused = takeRow(sheet, i, n, 2);
        if (refused != 0) {
            return refused;
        }
        return row.isEven(0, n - 1) ? 1 : 0;
    }

    public int bend(int sheet, int i, int n) {
        int refused = takeRow(sheet, i, n, 3);
        return refused != 0 ? refused : row.bendsAt();
    }

    public int people(int sheet, int i, int n) {
        int refused = takeRow(sheet, i, n, 1);
        return refused != 0 ? refused : row.firstTooLate();
    }

    public int against(int sheet, int i, int n) {
        int refused = takeRow(sheet, i, n, 2);
        return refused != 0 ? refused : row.pairsTurned();
    }

    public int turn(int what) {
        if (!isBelow(what, 3)) {
            return BAD;
        }
        if (!world.isThere()) {
            return STATE;
        }
        if (world.hills.allDates() == 0) {
            return NONE;
        }
        best.seek();
        return what == 0 ? best.x : what == 1 ? best.y : best.off;
    }

    public int says(int story) {
        if (!isStory(story) || !world.floor.isOfNeedles(story)) {
            return BAD;
        }
        return stories.needlesSaying(story);
    }

    public int wandered(int a, int b, int what) {
        if (!isHill(a) || !isHill(b) || a == b || !isBelow(what, 2)) {
            return BAD;
        }
        Hills all = world.hills;
        if (!all.hasNeedle(a) || !all.hasNeedle(b)) {
            return NONE;
        }
        int farther = all.needleY[a] - all.needleY[b];
        int wide = all.needleWide[a] + all.needleWide[b];
        return what == 0 ? farther - wide : farther + wide;
    }

    public int leans(int a, int b, int what) {
        if (!isHouse(a) || !isHouse(b) || a == b || !isBelow(what, 2)) {
            return BAD;
        }
        Lines houses = world.floor.houses;
        int spans = houses.at(a, Floor.SPAN) + houses.at(b, Floor.SPAN);
        int from = -BEYOND_ALL;
        int to = BEYOND_ALL;
        for (int h = 0; h < world.hills.number; h++) {
            int ofA = world.hills.firstDateOf(h, a);
            int ofB = world.hills.firstDateOf(h, b);
            if (ofA >= 0 && ofB >= 0) {
                from = Math.max(from, ofA - ofB - spans);
                to = Math.min(to, ofA - ofB + spans);
            }
        }
        if (from == -BEYOND_ALL || from > to) {
            return NONE;
        }
        return what == 0 ? from : to;
    }

    public int orders() {
        return world.hills.number == 0 ? STATE : row.allowedOrders();
    }

    public int chance() {
        return world.isThere() ? world.hills.linesOfThree() : STATE;
    }

    public int bore() {
        return world.isThere() ? stories.leastKnown() : STATE;
    }

    public int next(int fire, int what) {
        if (!isBelow(fire, world.floor.fires.number) || !isBelow(what, 2)) {
            return BAD;
        }
        if (world.floor.isCrack(0)) {
            return STATE;
        }
        int latest = stories.latestOf(fire);
        if (latest < 0) {
            return NONE;
        }
        int since = what == 0 ? world.hills.upper[latest] : world.hills.lower[latest];
        return Math.max(0, world.floor.fires.at(fire, Floor.EVERY) - since);
    }

    public int image(int k) {
        if (!isBelow(k, IMAGES)) {
            return BAD;
        }
        if (!world.isThere()) {
            return STATE;
        }
        images[k].take(world);
        return 1;
    }

    public int restore(int k) {
        if (!isBelow(k, IMAGES)) {
            return BAD;
        }
        if (!images[k].isThere()) {
            return STATE;
        }
        world.take(images[k]);
        return 1;
    }

    // ---- asked

    public int kind(int hill) {
        return isHill(hill) ? kindOf(hill) : BAD;
    }

    public int as(int hill, int kind) {
        if (!isHill(hill) || !isBelow(kind, Asks.KINDS)) {
            return BAD;
        }
        return Asks.isOf(kindOf(hill), kind) ? unfound(hill) : found(KIND);
    }

    public int ask(int hill, int what) {
        if (!isHill(hill) || !isBelow(what, 2)) {
            return BAD;
        }
        asks.begin(hill, kindOf(hill), world.hills.dates[hill], world.hills.lower[hill]);
        return what == 0 ? asks.size() : asks.mark();
    }

    public int trace(int i) {
        return isBelow(i, asks.begun) ? asks.bodies[i] : NONE;
    }

    public int count(int what) {
        switch (what) {
            case 0:
                return sheetsThere();
            case 1:
                return world.floor.floors.number;
            case 2:
                return world.floor.fires.number;
            case 3:
                return world.floor.houses.number;
            case 4:
                return world.floor.cracks.number;
            case 5:
                return world.floor.stories.number;
            case 6:
                return world.hills.number;
            case 7:
                return world.hills.allDates();
            case 8:
                return world.hills.allNeedles();
            case 9:
                return tape.size;
            default:
                return BAD;
        }
    }

    public int status() {
        return latestFinding;
    }

    // ---- what calls share

    private int found(int finding) {
        latestFinding = finding;
        return FINDINGS - finding;
    }

    private int unfound(int answer) {
        latestFinding = 0;
        return answer;
    }

    private static boolean isWithin(int v, int least, int most) {
        return v >= least && v <= most;
    }

    private static boolean isBelow(int v, int end) {
        return v >= 0 && v < end;
    }

    private static boolean isAge(int v) {
        return isWithin(v, 0, OLDEST);
    }

    private static boolean isPlace(int v) {
        return isWithin(v, -FARTHEST, FARTHEST);
    }

    private boolean isHill(int hill) {
        return isBelow(hill, world.hills.number);
    }

    private boolean isHouse(int house) {
        return isBelow(house, world.floor.houses.number);
    }

    private boolean isStory(int story) {
        return isBelow(story, world.floor.stories.number);
    }

    private boolean isFireOf(int story, int fire) {
        return isBelow(fire, world.floor.firesOf(story));
    }

    private int sheetsThere() {
        int there = 0;
        for (int i = 0; i < SHEETS; i++) {
            there += sheets[i].isMissing() ? 0 : 1;
        }
        return there;
    }

    /** One number of a fraction in lowest terms; below is above 0, above is no less than 0. */
    private static int lowest(int above, int below, boolean upper) {
        int a = above;
        int b = below;
        for (int steps = 0; steps < 64 && a != 0; steps++) {
            int rest = b % a;
            b = a;
            a = rest;
        }
        return b == 0 ? NONE : (upper ? above : below) / b;
    }

    /** Takes a row for the calls that share even()'s refusals: 0, or what is refused. */
    private int takeRow(int sheet, int i, int n, int least) {
        if (!isBelow(sheet, SHEETS) || !isWithin(n, least, HILLS)) {
            return BAD;
        }
        if (world.hills.number == 0) {
            return STATE;
        }
        if (sheets[sheet].isMissing()) {
            return found(NULL);
        }
        if (!sheets[sheet].has(i, n)) {
            return found(PLACE);
        }
        return row.take(sheets[sheet].item, i, n) ? unfound(0) : BAD;
    }

    private int kindOf(int hill) {
        Hills all = world.hills;
        if (all.again[hill] != 0) {
            return Asks.TWICE;
        }
        if (all.dates[hill] > 0) {
            return all.upper[hill] - all.lower[hill] <= 2 ? Asks.SURE : Asks.DATED;
        }
        return stories.fitsAny(hill) ? Asks.BARE : Asks.STRAY;
    }

    private static final class Sheet {
        private static final int NO_LANE = -1;

        final int[] item = new int[ITEMS];
        int lane = NO_LANE;
        private int items;

        boolean isMissing() {
            return lane == NO_LANE;
        }

        void begin(int newLane, int n) {
            lane = newLane;
            items = n;
            Arrays.fill(item, 0);
        }

        int end() {
            int had = items;
            lane = NO_LANE;
            items = 0;
            return had;
        }

        /** In long, since a place and a length may go beyond int together. */
        boolean has(long from, long n) {
            return from >= 0 && n >= 0 && from + n <= items;
        }

        int put(int i, int v) {
            item[i] = lane == 0 ? (byte) v : lane == 1 ? (short) v : v;
            return item[i];
        }
    }

    private static final class Tape {
        static final int ROOM = 500;

        final byte[] bytes = new byte[ROOM];
        int size;

        void append(long w, int n) {
            for (int shift = 8 * (n - 1); shift >= 0; shift -= 8) {
                bytes[size] = (byte) (w >> shift);
                size++;
            }
        }

        /** The byte at a place, or one that is of no token where the tape has ended. */
        int at(int place) {
            return place < size ? bytes[place] : -1;
        }
    }

    /** What was told by one word of the text: lines of as many numbers each. */
    private static final class Lines {
        static final int ROOM = 4;
        /** What the first column is: a number like others, one that rises by lines, or a name. */
        static final int LIKE_OTHERS = 0, RISING = 1, NAMED = 2;

        final String word;
        final int columns;
        int number;
        private final int first;
        private final int[] least;
        private final int[] most;
        private final int[] numbers;

        Lines(String word, int first, int[] least, int[] most) {
            this.word = word;
            this.first = first;
            this.least = least;
            this.most = most;
            this.columns = Math.min(least.length, most.length);
            this.numbers = new int[ROOM * columns];
        }

        int at(int line, int column) {
            return numbers[line * columns + column];
        }

        boolean isFull() {
            return number >= ROOM;
        }

        boolean isNamed(int column) {
            return first == NAMED && column == 0;
        }

        boolean admits(int column, int v) {
            boolean rises = first != RISING || column != 0 || number == 0 || v > at(number - 1, 0);
            return rises && v >= least[column] && v <= most[column];
        }

        /** Puts a number into the line that is being read, which counts only once it is whole. */
        void put(int column, int v) {
            numbers[number * columns + column] = v;
        }

        void take(Lines other) {
            number = other.number;
            System.arraycopy(other.numbers, 0, numbers, 0, numbers.length);
        }
    }

    /** Reads the tape into a floor of its own, so that a fault leaves the standing one alone. */
    private static final class Reader {
        private static final int END = 0, NAME = 1, NUMBER = 2, SIGN = 3, NO_TOKEN = 4;
        private static final int MISPLACED = 1, NOT_AS_TOLD = 2, NO_ROOM = 3;
        private static final int FIGURES = 4;

        final Floor floor = new Floor();
        int fault;
        /** The first byte of the token at hand: where a fault is. */
        int start;
        private final Tape tape;
        private int sort;
        private int value;
        private int behind;

        Reader(Tape tape) {
            this.tape = tape;
        }

        boolean read() {
            floor.clear();
            behind = 0;
            advance();
            return readLines(floor.floors, 1) && readLines(floor.fires, 1) && readLines(floor.houses, 0)
                && readCrack() && readLines(floor.stories, 1) && (sort == END || refuse(MISPLACED));
        }

        private boolean refuse(int why) {
            fault = why;
            return false;
        }

        private boolean readLines(Lines lines, int needed) {
            for (int line = 0; line <= Lines.ROOM && isWord(lines.word); line++) {
                if (!readLine(lines)) {
                    return false;
                }
            }
            return lines.number >= needed || refuse(MISPLACED);
        }

        /** A second crack is left to the stories, where its word cannot stand. */
        private boolean readCrack() {
            return !isWord(floor.cracks.word) || readLine(floor.cracks);
        }

        private boolean readLine(Lines lines) {
            if (lines.isFull()) {
                return refuse(NO_ROOM);
            }
            advance();
            for (int column = 0; column < lines.columns; column++) {
                if (lines.isNamed(column) ? !takeWhich() : !takeNumber(lines, column)) {
                    return false;
                }
                advance();
            }
            if (sort != SIGN) {
                return refuse(MISPLACED);
            }
            advance();
            lines.number++;
            return true;
        }

        private boolean takeNumber(Lines lines, int column) {
            if (sort != NUMBER) {
                return refuse(MISPLACED);
            }
            if (!lines.admits(column, value)) {
                return refuse(NOT_AS_TOLD);
            }
            lines.put(column, value);
            return true;
        }

        private boolean takeWhich() {
            int which = isWord("stays") ? Floor.STAYS : isWord("wanders") ? Floor.WANDERS
                : isWord("late") ? Floor.LATE
                : isWord("crack") && floor.cracks.number > 0 ? Floor.CRACK : -1;
            if (which < 0) {
                return refuse(MISPLACED);
            }
            floor.stories.put(Floor.WHICH, which);
            return true;
        }

        private boolean isWord(String word) {
            if (sort != NAME || behind - start != word.length()) {
                return false;
            }
            for (int i = 0; i < word.length(); i++) {
                if (tape.at(start + i) != word.charAt(i)) {
                    return false;
                }
            }
            return true;
        }

        private void advance() {
            start = behind;
            while (start < tape.size && (tape.at(start) == ' ' || tape.at(start) == '\n')) {
                start++;
            }
            behind = start;
            if (start >= tape.size) {
                sort = END;
            } else if (tape.at(start) == ';') {
                sort = SIGN;
                behind++;
            } else if (isLetter(tape.at(start))) {
                sort = NAME;
                while (behind < tape.size && isLetter(tape.at(behind))) {
                    behind++;
                }
            } else {
                advanceNumber();
            }
        }

        private void advanceNumber() {
            boolean minus = tape.at(start) == '-';
            int figures = minus ? start + 1 : start;
            int read = 0;
            behind = figures;
            while (behind < tape.size && isFigure(tape.at(behind))) {
                // More figures than a number has are no token; their value is never used.
                read = 10 * read + tape.at(behind) - '0';
                behind++;
            }
            sort = behind > figures && behind - figures <= FIGURES ? NUMBER : NO_TOKEN;
            value = minus ? -read : read;
        }

        private static boolean isLetter(int sign) {
            return sign >= 'a' && sign <= 'z';
        }

        private static boolean isFigure(int sign) {
            return sign >= '0' && sign <= '9';
        }
    }

    /** A floor with its fires, houses, crack and stories; without stories there is none. */
    private static final class Floor {
        static final int STAYS = 0, WANDERS = 1, CRACK = 2, LATE = 3;
        static final int TILL = 0, SPEED_X = 1, SPEED_Y = 2;
        static final int X = 0, Y = 1, MOVE_X = 2, EVERY = 4, FIRE_WIDE = 5, CRACK_WIDE = 4;
        static final int LEAN = 0, SPAN = 1, WHICH = 0, ODDS = 1;
        private static final int[] FLOOR_LEAST = {1, -99, -99}, FLOOR_MOST = {99, 99, 99};
        private static final int[] FIRE_LEAST = {-9999, -9999, -9, -9, 1, 0};
        private static final int[] FIRE_MOST = {9999, 9999, 9, 9, 20, 99};
        private static final int[] HOUSE_LEAST = {-9, 0}, HOUSE_MOST = {9, 20};
        private static final int[] CRACK_LEAST = {-9999, -9999, -99, -99, 0};
        private static final int[] CRACK_MOST = {9999, 9999, 99, 99, 99};
        private static final int[] STORY_LEAST = {STAYS, 1}, STORY_MOST = {LATE, 9};

        final Lines floors = new Lines("floor", Lines.RISING, FLOOR_LEAST, FLOOR_MOST);
        final Lines fires = new Lines("fire", Lines.LIKE_OTHERS, FIRE_LEAST, FIRE_MOST);
        final Lines houses = new Lines("house", Lines.LIKE_OTHERS, HOUSE_LEAST, HOUSE_MOST);
        final Lines cracks = new Lines("crack", Lines.LIKE_OTHERS, CRACK_LEAST, CRACK_MOST);
        final Lines stories = new Lines("story", Lines.NAMED, STORY_LEAST, STORY_MOST);
        final int[] driftX = new int[OLDEST + 1];
        final int[] driftY = new int[OLDEST + 1];
        private final int[] noDrift = new int[OLDEST + 1];

        void clear() {
            floors.number = 0;
            fires.number = 0;
            houses.number = 0;
            cracks.number = 0;
            stories.number = 0;
        }

        void take(Floor other) {
            floors.take(other.floors);
            fires.take(other.fires);
            houses.take(other.houses);
            cracks.take(other.cracks);
            stories.take(other.stories);
            addDrift();
        }

        private void addDrift() {
            int line = 0;
            for (int age = 1; age <= OLDEST; age++) {
                if (line < floors.number - 1 && floors.at(line, TILL) < age) {
                    line++;
                }
                driftX[age] = driftX[age - 1] + floors.at(line, SPEED_X);
                driftY[age] = driftY[age - 1] + floors.at(line, SPEED_Y);
            }
        }

        boolean isCrack(int story) {
            return stories.at(story, WHICH) == CRACK;
        }

        boolean isLate(int story) {
            return stories.at(story, WHICH) == LATE;
        }

        boolean isOfNeedles(int story) {
            return stories.at(story, WHICH) == STAYS || stories.at(story, WHICH) == WANDERS;
        }

        int firesOf(int story) {
            return isCrack(story) ? 1 : fires.number;
        }

        int wideOf(int story, int fire) {
            return isCrack(story) ? cracks.at(0, CRACK_WIDE) : fires.at(fire, FIRE_WIDE);
        }

        /** Where a story has the fire (the crack) now: x (axis = 0), y (1). */
        int startOf(int story, int fire, int axis) {
            return isCrack(story) ? cracks.at(0, X + axis) : fires.at(fire, X + axis);
        }

        /** By how much that lies elsewhere with each unit of age, but for the drift. */
        int stepOf(int story, int fire, int axis) {
            if (isCrack(story)) {
                return cracks.at(0, MOVE_X + axis);
            }
            return stories.at(story, WHICH) == WANDERS ? -fires.at(fire, MOVE_X + axis) : 0;
        }

        /** The drift that a story adds by ages: none for a crack, which runs on by itself. */
        int[] driftOf(int story, int axis) {
            return isCrack(story) ? noDrift : axis == 0 ? driftX : driftY;
        }

        int placeOf(int story, int fire, int age, int axis) {
            return startOf(story, fire, axis) + stepOf(story, fire, axis) * age + driftOf(story, axis)[age];
        }
    }

    private static final class Hills {
        private static final int NO_NEEDLE = -1;

        final int[] x = new int[HILLS];
        final int[] y = new int[HILLS];
        final int[] dates = new int[HILLS];
        final int[] lower = new int[HILLS];
        final int[] upper = new int[HILLS];
        /** Whether the hill is AGAIN: 1, 0. */
        final int[] again = new int[HILLS];
        final int[] needleY = new int[HILLS];
        final int[] needleWide = new int[HILLS];
        int number;
        private final int[] house = new int[HILLS * DATES];
        private final int[] value = new int[HILLS * DATES];

        void take(Hills other) {
            System.arraycopy(other.x, 0, x, 0, HILLS);
            System.arraycopy(other.y, 0, y, 0, HILLS);
            System.arraycopy(other.dates, 0, dates, 0, HILLS);
            System.arraycopy(other.lower, 0, lower, 0, HILLS);
            System.arraycopy(other.upper, 0, upper, 0, HILLS);
            System.arraycopy(other.again, 0, again, 0, HILLS);
            System.arraycopy(other.needleY, 0, needleY, 0, HILLS);
            System.arraycopy(other.needleWide, 0, needleWide, 0, HILLS);
            System.arraycopy(other.house, 0, house, 0, HILLS * DATES);
            System.arraycopy(other.value, 0, value, 0, HILLS * DATES);
            number = other.number;
        }

        boolean hasRoom(int more) {
            return number + more <= HILLS;
        }

        void add(int atX, int atY) {
            x[number] = atX;
            y[number] = atY;
            dates[number] = 0;
            lower[number] = 0;
            upper[number] = OLDEST;
            again[number] = 0;
            needleWide[number] = NO_NEEDLE;
            number++;
        }

        void addDate(int hill, int ofHouse, int v, Lines houses) {
            int at = hill * DATES + dates[hill];
            house[at] = ofHouse;
            value[at] = v;
            dates[hill]++;
            findEnds(hill, houses);
        }

        private void findEnds(int hill, Lines houses) {
            int greatestLower = -1;
            int leastUpper = OLDEST;
            int upperOfGreatest = OLDEST;
            for (int d = hill * DATES; d < hill * DATES + dates[hill]; d++) {
                int midst = value[d] - houses.at(house[d], Floor.LEAN);
                int span = houses.at(house[d], Floor.SPAN);
                int low = asAge(midst - span);
                int high = asAge(midst + span);
                if (low > greatestLower) {
                    greatestLower = low;
                    upperOfGreatest = high;
                }
                leastUpper = Math.min(leastUpper, high);
            }
            boolean isAgain = greatestLower > leastUpper;
            again[hill] = isAgain ? 1 : 0;
            lower[hill] = greatestLower;
            upper[hill] = isAgain ? upperOfGreatest : leastUpper;
        }

        private static int asAge(int v) {
            return Math.max(0, Math.min(OLDEST, v));
        }

        /** The first date that a house gave of a hill; below 0: it gave none. */
        int firstDateOf(int hill, int ofHouse) {
            for (int d = hill * DATES; d < hill * DATES + dates[hill]; d++) {
                if (house[d] == ofHouse) {
                    return value[d];
                }
            }
            return -1;
        }

        boolean hasNeedle(int hill) {
            return needleWide[hill] != NO_NEEDLE;
        }

        int allDates() {
            int all = 0;
            for (int h = 0; h < number; h++) {
                all += dates[h];
            }
            return all;
        }

        int allNeedles() {
            int all = 0;
            for (int h = 0; h < number; h++) {
                all += hasNeedle(h) ? 1 : 0;
            }
            return all;
        }

        int apart(int a, int b) {
            return Math.abs(x[a] - x[b]) + Math.abs(y[a] - y[b]);
        }

        boolean isOlder(int a, int b) {
            return lower[a] > upper[b];
        }

        int linesOfThree() {
            int lines = 0;
            for (int a = 0; a < number; a++) {
                for (int b = a + 1; b < number; b++) {
                    for (int c = b + 1; c < number; c++) {
                        lines += areOnLine(a, b, c) ? 1 : 0;
                    }
                }
            }
            return lines;
        }

        private boolean areOnLine(int a, int b, int c) {
            long one = (long) (x[b] - x[a]) * (y[c] - y[a]);
            long other = (long) (x[c] - x[a]) * (y[b] - y[a]);
            return one == other;
        }
    }

    /** A floor with its hills: what an image keeps. */
    private static final class World {
        final Floor floor = new Floor();
        final Hills hills = new Hills();

        boolean isThere() {
            return floor.stories.number > 0;
        }

        void begin(Floor read) {
            floor.take(read);
            hills.number = 0;
        }

        void take(World other) {
            floor.take(other.floor);
            hills.take(other.hills);
        }
    }

    private static final class Stories {
        private final Floor floor;
        private final Hills hills;
        /** What find() has found. */
        int fire;
        int age;
        int off;
        boolean fit;

        Stories(World world) {
            this.floor = world.floor;
            this.hills = world.hills;
        }

        void find(int hill, int story) {
            int last = floor.isLate(story) ? OLDEST : hills.upper[hill];
            off = BEYOND_ALL;
            for (int f = 0; f < floor.firesOf(story); f++) {
                findBy(hill, story, f, last);
            }
        }

        /** Takes what is nearer than all ahead of it, so that of several the least fire and age stand. */
        private void findBy(int hill, int story, int f, int last) {
            int farX = hills.x[hill] - floor.startOf(story, f, 0);
            int farY = hills.y[hill] - floor.startOf(story, f, 1);
            int stepX = floor.stepOf(story, f, 0);
            int stepY = floor.stepOf(story, f, 1);
            int[] driftX = floor.driftOf(story, 0);
            int[] driftY = floor.driftOf(story, 1);
            int wide = floor.wideOf(story, f);
            for (int a = hills.lower[hill]; a <= last; a++) {
                int offX = Math.abs(farX - stepX * a - driftX[a]);
                int offY = Math.abs(farY - stepY * a - driftY[a]);
                if (offX + offY < off) {
                    off = offX + offY;
                    fire = f;
                    age = a;
                    fit = offX <= wide && offY <= wide;
                }
            }
        }

        int fitting(int story) {
            int bits = 0;
            for (int h = 0; h < hills.number; h++) {
                find(h, story);
                bits |= fit ? 1 << h : 0;
            }
            return bits;
        }

        int fittingBy(int story, int ofFire) {
            int bits = 0;
            for (int h = 0; h < hills.number; h++) {
                find(h, story);
                bits |= fit && fire == ofFire ? 1 << h : 0;
            }
            return bits;
        }

        boolean fitsAny(int hill) {
            for (int s = 0; s < floor.stories.number; s++) {
                find(hill, s);
                if (fit) {
                    return true;
                }
            }
            return false;
        }

        int weight(int story) {
            int weight = floor.stories.at(story, Floor.ODDS);
            int fitting = Integer.bitCount(fitting(story));
            for (int i = 0; i < fitting; i++) {
                weight *= 3;
            }
            return weight;
        }

        int needlesSaying(int story) {
            int saying = 0;
            for (int h = 0; h < hills.number; h++) {
                if (hills.hasNeedle(h)) {
                    find(h, story);
                    int north = floor.startOf(story, fire, 1) + floor.stepOf(story, fire, 1) * age;
                    saying += Math.abs(north - hills.needleY[h]) <= hills.needleWide[h] ? 1 : 0;
                }
            }
            return saying;
        }

        /** The bare hill whose age the stories tell most differently. */
        int leastKnown() {
            int best = NONE;
            int most = -1;
            for (int h = 0; h < hills.number; h++) {
                int apart = hills.dates[h] > 0 ? -1 : agesApart(h);
                if (apart > most) {
                    most = apart;
                    best = h;
                }
            }
            return best;
        }

        private int agesApart(int hill) {
            int least = OLDEST;
            int most = 0;
            for (int s = 0; s < floor.stories.number; s++) {
                find(hill, s);
                least = Math.min(least, age);
                most = Math.max(most, age);
            }
            return most - least;
        }

        /** The hill that came last of a fire by story 0; below 0: none did. */
        int latestOf(int ofFire) {
            int latest = -1;
            int bits = fittingBy(0, ofFire);
            for (int h = 0; h < hills.number; h++) {
                boolean came = (bits >> h & 1) != 0;
                if (came && (latest < 0 || hills.upper[h] < hills.upper[latest])) {
                    latest = h;
                }
            }
            return latest;
        }
    }

    private static final class Row {
        private final Hills hills;
        private final int[] member = new int[HILLS];
        private final int[] far = new int[HILLS];
        private final int[] ways = new int[1 << HILLS];
        private int length;

        Row(Hills hills) {
            this.hills = hills;
        }

        /** Takes hills from items that are there; false: one is no hill, or stands twice. */
        boolean take(int[] item, int from, int n) {
            int seen = 0;
            for (int k = 0; k < n; k++) {
                int hill = item[from + k];
                if (hill < 0 || hill >= hills.number || (seen >> hill & 1) != 0) {
                    return false;
                }
                seen |= 1 << hill;
                member[k] = hill;
            }
            length = n;
            return true;
        }

        /**
         * For a given b there is a c unless the lower end of one hill, less b times how far it is,
         * is above the upper end of another one less b times how far that is. So each pair bounds
         * b from one side, and the row is even where the bounds leave something.
         */
        boolean isEven(int first, int last) {
            for (int i = first; i <= last; i++) {
                far[i] = hills.apart(member[first], member[i]);
            }
            long mostAbove = 1;
            long mostBelow = 0;
            long leastAbove = -1;
            long leastBelow = 0;
            for (int i = first; i <= last; i++) {
                for (int j = first; j <= last; j++) {
                    long room = hills.upper[member[j]] - hills.lower[member[i]];
                    long farther = far[j] - far[i];
                    if (farther == 0 && room < 0) {
                        return false;
                    }
                    if (farther > 0 && room * mostBelow < mostAbove * farther) {
                        mostAbove = room;
                        mostBelow = farther;
                    }
                    if (farther < 0 && -room * leastBelow > leastAbove * -farther) {
                        leastAbove = -room;
                        leastBelow = -farther;
                    }
                }
            }
            return leastAbove * mostBelow <= mostAbove * leastBelow;
        }

        int bendsAt() {
            if (isEven(0, length - 1)) {
                return NONE;
            }
            for (int k = 1; k <= length - 2; k++) {
                if (isEven(0, k) && isEven(k, length - 1)) {
                    return k;
                }
            }
            return NONE;
        }

        int firstTooLate() {
            for (int k = 1; k < length; k++) {
                for (int ahead = 0; ahead < k; ahead++) {
                    if (hills.isOlder(member[k], member[ahead])) {
                        return k;
                    }
                }
            }
            return NONE;
        }

        int pairsTurned() {
            int pairs = 0;
            for (int k = 1; k < length; k++) {
                for (int ahead = 0; ahead < k; ahead++) {
                    pairs += hills.isOlder(member[k], member[ahead]) ? 1 : 0;
                }
            }
            return pairs;
        }

        /** Counts by the sets of hills that can stand ahead: a hill may follow once all older ones stand. */
        int allowedOrders() {
            int all = (1 << hills.number) - 1;
            Arrays.fill(ways, 0, all + 1, 0);
            for (int h = 0; h < hills.number; h++) {
                far[h] = olderThan(h);
            }
            ways[0] = 1;
            for (int ahead = 0; ahead < all; ahead++) {
                for (int h = 0; h < hills.number && ways[ahead] > 0; h++) {
                    boolean stands = (ahead >> h & 1) != 0;
                    if (!stands && (far[h] & ~ahead) == 0) {
                        ways[ahead | 1 << h] += ways[ahead];
                    }
                }
            }
            return ways[all];
        }

        private int olderThan(int hill) {
            int bits = 0;
            for (int h = 0; h < hills.number; h++) {
                bits |= hills.isOlder(h, hill) ? 1 << h : 0;
            }
            return bits;
        }
    }

    private static final class Turn {
        private static final int FASTEST = 20;

        private final Floor floor;
        private final Hills hills;
        int x;
        int y;
        int off;

        Turn(World world) {
            this.floor = world.floor;
            this.hills = world.hills;
        }

        void seek() {
            off = BEYOND_ALL;
            for (int tryX = -FASTEST; tryX <= FASTEST; tryX++) {
                for (int tryY = -FASTEST; tryY <= FASTEST; tryY++) {
                    int all = offBy(tryX, tryY);
                    if (all < off) {
                        off = all;
                        x = tryX;
                        y = tryY;
                    }
                }
            }
        }

        /** By how much all dated hills are off; no more is added once it cannot be the least. */
        private int offBy(int tryX, int tryY) {
            int all = 0;
            for (int h = 0; h < hills.number && all < off; h++) {
                if (hills.dates[h] > 0) {
                    int age = (hills.lower[h] + hills.upper[h]) / 2;
                    all += offFires(hills.x[h] - tryX * age, hills.y[h] - tryY * age);
                }
            }
            return all;
        }

        private int offFires(int fromX, int fromY) {
            int least = BEYOND_ALL;
            for (int f = 0; f < floor.fires.number; f++) {
                int by = Math.abs(fromX - floor.fires.at(f, Floor.X)) + Math.abs(fromY - floor.fires.at(f, Floor.Y));
                least = Math.min(least, by);
            }
            return least;
        }
    }

    /** Asks of one hill, and the trace of the bodies that began. */
    private static final class Asks {
        static final int KINDS = 6;
        static final int HILL = 0, DATED = 1, SURE = 2, TWICE = 3, BARE = 4, STRAY = 5;
        private static final int[] ABOVE = {HILL, HILL, DATED, DATED, HILL, BARE};
        private static final int TRACE = 16;

        final int[] bodies = new int[TRACE];
        int begun;
        private int hill;
        private int kind;
        private int dates;
        private int lower;

        /** Whether a hill told as one kind is of another one: that, or one above it. */
        static boolean isOf(int told, int asked) {
            return asked == HILL || asked == told || asked == ABOVE[told];
        }

        void begin(int ofHill, int ofKind, int itsDates, int itsLower) {
            hill = ofHill;
            kind = ofKind;
            dates = itsDates;
            lower = itsLower;
            begun = 0;
        }

        int size() {
            switch (kind) {
                case DATED:
                    return body11();
                case SURE:
                    return body12();
                case TWICE:
                    return body13();
                default:
                    return sizeOfBare();
            }
        }

        private int sizeOfBare() {
            return kind == STRAY ? body14() : body10();
        }

        int mark() {
            switch (kind) {
                case DATED:
                case SURE:
                case TWICE:
                    return body21();
                case BARE:
                    return body22();
                case STRAY:
                    return body23();
                default:
                    return body20();
            }
        }

        private void leave(int body) {
            if (begun < TRACE) {
                bodies[begun] = body;
                begun++;
            }
        }

        private int body10() {
            leave(10);
            return dates;
        }

        private int body11() {
            leave(11);
            return body10() + lower;
        }

        private int body12() {
            leave(12);
            return 2 * body11();
        }

        /** MARK of a TWICE hill is always 21: told by that name, so that no body can lead to itself. */
        private int body13() {
            leave(13);
            return body11() - body21();
        }

        private int body14() {
            leave(14);
            return body10() + 7;
        }

        private int body20() {
            leave(20);
            return hill;
        }

        private int body21() {
            leave(21);
            return body20() + 100;
        }

        private int body22() {
            leave(22);
            return body20() + sizeOfBare();
        }

        private int body23() {
            leave(23);
            return -body22();
        }
    }
}
