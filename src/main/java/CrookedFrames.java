import java.util.Arrays;

/**
 * The patroness of the crooked picture: she turns frames at night, and whoever sets one right in
 * the morning is hers for the day. A house is told in a text and laid; all else is asked of it.
 */
public final class CrookedFrames {
    public static final int BAD = -1, NO = -2, FULL = -3, NONE = -4;

    private static final int MAX_LETTERS = 200, FIRST_LETTER = 32, LAST_LETTER = 126;
    private static final int MAX_FRAMES = 7, MAX_PERSONS = 5, MAX_COMINGS = 10, MAX_TURNS = 8;
    private static final int MAX_SIGHTS = 8, MAX_UNDONE = 8, MAX_KEPT = 2;
    private static final int ROOMS = 4, HOURS = 24, DAYS = 31, KINDS = 4;
    private static final int HALF = 1, OVER = 2, LAZY = 3;

    /** No ANGLE is farther from level; one that may be below 0 is answered so much higher. */
    private static final int FARTHEST = 40;
    /** ANGLES and turns are told so much higher in texts and calls, 0 to TOLD_MOST. */
    private static final int TOLD_LEVEL = 20, TOLD_MOST = 40;
    /** Twists of wires are told so much higher, 0 to WIRE_MOST. */
    private static final int WIRE_LEVEL = 5, WIRE_MOST = 10;
    private static final int MOST_BORNE = 20, MOST_TURNED = 20, LOOK_MOST = 20;
    private static final int WIRE_NIGHTS = 6, TENTHS = 10, LAST_DRAW = 9999;

    private static final String FIRST_HOUSE =
            "f0,23;f0,20;f1,15;f1,26;t0,6;t3,4;p0,2;p1,1;p2,3;w0,8,0;w1,9,0;w1,10,1;w2,8,1;n1,1,24;n2,2,18;c2,16;";

    private final Text text = new Text();
    private final Reader reader = new Reader();
    private final Turns turns = new Turns();
    private final Shelf undoable = new Shelf(MAX_UNDONE);
    private final Shelf kept = new Shelf(MAX_KEPT);
    private final Days days = new Days();
    private final Lures lures = new Lures();
    private final Sights sights = new Sights();
    private final Draws draws = new Draws();
    private final Chance chance = new Chance();
    private House house = new House();
    /** Where THE TEXT is read to, so that a text with a fault leaves the house as it is. */
    private House draft = new House();

    public CrookedFrames() {
        for (int n = 0; n < FIRST_HOUSE.length(); n++) {
            text.add(FIRST_HOUSE.charAt(n));
        }
        reader.readAll(text, draft);
        moveIn();
        text.empty();
    }

    // ---- houses

    public int write(int letter) {
        if (letter < FIRST_LETTER || letter > LAST_LETTER) {
            return BAD;
        }
        return text.add(letter) ? text.length : FULL;
    }

    public int wipe() {
        return text.empty();
    }

    public int fault() {
        return reader.readAll(text, draft);
    }

    public int lay() {
        if (reader.readAll(text, draft) != NONE || draft.frames == 0) {
            return NO;
        }
        moveIn();
        return house.frames;
    }

    public int frame(int k, int what) {
        if (outside(k, house.frames)) {
            return BAD;
        }
        switch (what) {
            case 0: return house.rooms[k];
            case 1: return house.angles[k] + FARTHEST;
            case 2: return house.wires[k] + WIRE_LEVEL;
            case 3: return house.patches[k] + FARTHEST;
            default: return BAD;
        }
    }

    public int person(int i, int what) {
        if (outside(i, house.persons) || outside(what, 2)) {
            return BAD;
        }
        return what == 0 ? house.kinds[i] : house.borne[i];
    }

    // ---- days

    public int angle(int k, int day) {
        if (outside(k, house.frames) || outside(day, DAYS)) {
            return BAD;
        }
        return daysNow().evenings[day][k] + FARTHEST;
    }

    public int hers(int day) {
        return outside(day, DAYS) ? BAD : daysNow().won[day];
    }

    public int sets(int i, int day) {
        if (outside(i, house.persons) || outside(day, DAYS)) {
            return BAD;
        }
        return daysNow().righted[day][i];
    }

    public int rest() {
        return daysNow().firstOfRest(house);
    }

    public int sways() {
        return daysNow().swaying(house.frames);
    }

    // ---- turns

    public int told(int k, int what) {
        if (outside(k, turns.size)) {
            return BAD;
        }
        switch (what) {
            case 0: return turns.nights[k];
            case 1: return turns.frames[k];
            case 2: return turns.by[k] + TOLD_LEVEL;
            default: return BAD;
        }
    }

    public int turn(int night, int k, int d) {
        if (outside(night, DAYS) || outside(k, house.frames) || outside(d, TOLD_MOST + 1)) {
            return BAD;
        }
        if (turns.size >= MAX_TURNS) {
            return FULL;
        }
        undoable.put(turns);
        turns.add(night, k, d - TOLD_LEVEL);
        days.stale = true;
        return turns.size;
    }

    public int leave(int k) {
        if (outside(k, turns.size)) {
            return BAD;
        }
        undoable.put(turns);
        turns.remove(k);
        days.stale = true;
        return turns.size;
    }

    public int undo() {
        if (!undoable.takeLast(turns)) {
            return NO;
        }
        days.stale = true;
        return undoable.size;
    }

    // ---- whom she gets

    public int tempt(int i, int day) {
        if (outside(i, house.persons) || outside(day, DAYS)) {
            return BAD;
        }
        return lures.leastTurn(house, daysNow().mornings[day], i);
    }

    public int fewest(int set, int day) {
        if (outside(set, 1 << house.persons) || outside(day, DAYS)) {
            return BAD;
        }
        if ((daysNow().won[day] & set) == set) {
            return 0;
        }
        return lures.oneOrTwo(house, days.mornings[day], set);
    }

    public int safe(int day) {
        if (outside(day, DAYS)) {
            return BAD;
        }
        int got = daysNow().won[day] | lures.anybodyByOne(house, days.mornings[day]);
        return ((1 << house.persons) - 1) & ~got;
    }

    public int hang(int what) {
        if (outside(what, 2)) {
            return BAD;
        }
        int sum = 0;
        for (int k = 0; k < house.frames; k++) {
            int tooFar = Math.abs(house.angles[k]) - house.farthestBorneIn(house.rooms[k]);
            if (tooFar > 0) {
                sum += what == 0 ? tooFar : 1;
            }
        }
        return sum;
    }

    // ---- what was seen

    public int seen(int a, int b) {
        if (outside(a, TOLD_MOST + 1) || outside(b, TOLD_MOST + 1)) {
            return BAD;
        }
        return sights.add(a - TOLD_LEVEL, b - TOLD_LEVEL) ? sights.size : FULL;
    }

    public int forget() {
        return sights.empty();
    }

    public int bears(int kind) {
        return outside(kind, KINDS) ? BAD : sights.fitting(kind);
    }

    public int look(int kind, int what) {
        if (outside(kind, KINDS) || outside(what, 2)) {
            return BAD;
        }
        int fitting = sights.fitting(kind);
        if (fitting == 0) {
            return NONE;
        }
        int best = sights.bestLook(kind, fitting);
        return what == 0 ? best : sights.mostAlike(kind, fitting, best);
    }

    public int who(int a, int b) {
        if (outside(a, TOLD_MOST + 1) || outside(b, TOLD_MOST + 1) || a == b) {
            return BAD;
        }
        int bits = 0;
        for (int i = 0; i < house.persons; i++) {
            if (house.setBy(i, a - TOLD_LEVEL) == b - TOLD_LEVEL) {
                bits |= 1 << i;
            }
        }
        return bits;
    }

    // ---- ends, wires

    public int ends(int i, int j, int a, int what) {
        if (outside(i, house.persons) || outside(j, house.persons)
                || outside(a, TOLD_MOST + 1) || outside(what, 2)) {
            return BAD;
        }
        int now = a - TOLD_LEVEL;
        // Whoever sets a frame right brings it nearer to level, so of two comings one does until
        // it is at its end: the bound is never met.
        for (int comings = 0; comings <= 2 * FARTHEST; comings++) {
            if (house.setBy(i, now) == now && house.setBy(j, now) == now) {
                return what == 0 ? now + FARTHEST : comings;
            }
            now = house.setBy(comings % 2 == 0 ? i : j, now);
        }
        return NONE;
    }

    public int wire(int a, int l, int n, int x, int y, int part) {
        if (outside(a, TOLD_MOST + 1) || outside(l, MOST_BORNE + 1) || outside(n, WIRE_NIGHTS + 1)
                || outside(x, TENTHS + 1) || outside(y, TENTHS + 1 - x) || outside(part, 2)) {
            return BAD;
        }
        chance.twist(n, x, y);
        int above = chance.waysWithin(a - TOLD_LEVEL, l);
        int below = chance.allWays(n);
        int common = Chance.commonDivisor(above, below);
        int told = part == 0 ? above : below;
        return common > 0 ? told / common : told;
    }

    public int most(int what) {
        if (outside(what, 2)) {
            return BAD;
        }
        if (house.persons == 0) {
            return NONE;
        }
        int best = 0;
        for (int i = 1; i < house.persons; i++) {
            if (daysNow().daysWon(i) > daysNow().daysWon(best)) {
                best = i;
            }
        }
        return what == 0 ? best : daysNow().daysWon(best);
    }

    public int patches(int day) {
        if (outside(day, DAYS)) {
            return BAD;
        }
        int meant = 0;
        for (int k = 0; k < house.frames; k++) {
            if (daysNow().evenings[day][k] == house.patches[k]) {
                meant++;
            }
        }
        return meant;
    }

    public int night(int z, int what) {
        if (outside(z, LAST_DRAW + 1) || outside(what, 2)) {
            return BAD;
        }
        int often = draws.play(house, z);
        return what == 0 ? often : draws.row[0] + FARTHEST;
    }

    // ---- kept

    public int keep() {
        if (kept.size >= MAX_KEPT) {
            return FULL;
        }
        kept.put(turns);
        return kept.size;
    }

    public int back() {
        if (!kept.takeLast(turns)) {
            return NO;
        }
        undoable.size = 0;
        days.stale = true;
        return kept.size;
    }

    public int count(int what) {
        switch (what) {
            case 0: return house.frames;
            case 1: return house.persons;
            case 2: return house.comings;
            case 3: return turns.size;
            case 4: return sights.size;
            case 5: return undoable.size;
            case 6: return kept.size;
            case 7: return text.length;
            default: return BAD;
        }
    }

    // ---- helpers

    /** The draft becomes the house; the old one's rows serve as the next draft. */
    private void moveIn() {
        House old = house;
        house = draft;
        draft = old;
        turns.copy(house.told);
        undoable.size = 0;
        kept.size = 0;
        sights.empty();
        days.stale = true;
    }

    private Days daysNow() {
        if (days.stale) {
            days.play(house, turns);
        }
        return days;
    }

    private static boolean outside(int number, int end) {
        return number < 0 || number >= end;
    }

    private static int keptWithin(int angle) {
        return Math.max(-FARTHEST, Math.min(FARTHEST, angle));
    }

    /** THE TEXT, letter by letter. */
    private static final class Text {
        private final int[] letters = new int[MAX_LETTERS];
        private int length;

        boolean add(int letter) {
            if (length >= MAX_LETTERS) {
                return false;
            }
            letters[length] = letter;
            length++;
            return true;
        }

        int letterAt(int place) {
            return outside(place, length) ? NONE : letters[place];
        }

        int empty() {
            int was = length;
            length = 0;
            return was;
        }
    }

    /** Reads a text, item by item, to a house. */
    private static final class Reader {
        private static final int MAX_NUMBERS = 3;
        private final int[] numbers = new int[MAX_NUMBERS];
        /** Of the letter that is read next. */
        private int place;

        /** FAULT, or NONE; behind a fault the house is half told. */
        int readAll(Text text, House house) {
            house.empty();
            place = 0;
            for (int items = 0; items < MAX_LETTERS && place < text.length; items++) {
                int first = place;
                if (!readItem(text) || !house.take(text.letterAt(first), numbers)) {
                    return first;
                }
            }
            return NONE;
        }

        private boolean readItem(Text text) {
            int wanted = numbersBehind(text.letterAt(place));
            place++;
            for (int n = 0; n < wanted; n++) {
                int sign = n < wanted - 1 ? ',' : ';';
                numbers[n] = readNumber(text);
                if (numbers[n] < 0 || text.letterAt(place) != sign) {
                    return false;
                }
                place++;
            }
            return wanted > 0;
        }

        private static int numbersBehind(int letter) {
            switch (letter) {
                case 'f': case 't': case 'p': case 'c': return 2;
                case 'w': case 'n': return 3;
                default: return 0;
            }
        }

        /** A number of one or two figures, or NONE. */
        private int readNumber(Text text) {
            int number = figureAt(text, place);
            if (number == NONE) {
                return NONE;
            }
            place++;
            int second = figureAt(text, place);
            if (second == NONE) {
                return number;
            }
            place++;
            return 10 * number + second;
        }

        private static int figureAt(Text text, int at) {
            int letter = text.letterAt(at);
            return letter >= '0' && letter <= '9' ? letter - '0' : NONE;
        }
    }

    /** What a text tells: frames, people, their comings (by hours), and the turns of its nights. */
    private static final class House {
        private final int[] rooms = new int[MAX_FRAMES];
        private final int[] angles = new int[MAX_FRAMES];
        private final int[] wires = new int[MAX_FRAMES];
        private final int[] patches = new int[MAX_FRAMES];
        private int frames;
        private final int[] kinds = new int[MAX_PERSONS];
        private final int[] borne = new int[MAX_PERSONS];
        private int persons;
        private final int[] comers = new int[MAX_COMINGS];
        private final int[] hours = new int[MAX_COMINGS];
        private final int[] places = new int[MAX_COMINGS];
        private int comings;
        private final Turns told = new Turns();

        void empty() {
            frames = 0;
            persons = 0;
            comings = 0;
            told.size = 0;
        }

        /** Whether the item can be so; if it can, it is told. */
        boolean take(int letter, int[] numbers) {
            int first = numbers[0];
            int second = numbers[1];
            int third = numbers[2];
            switch (letter) {
                case 'f': return takeFrame(first, second);
                case 't': return takeWire(first, second);
                case 'p': return takePerson(first, second);
                case 'w': return takeComing(first, second, third);
                case 'n': return takeTurn(first, second, third);
                case 'c': return takePatch(first, second);
                default: return false;
            }
        }

        private boolean takeFrame(int room, int told) {
            if (frames >= MAX_FRAMES || outside(room, ROOMS) || outside(told, TOLD_MOST + 1)) {
                return false;
            }
            rooms[frames] = room;
            angles[frames] = told - TOLD_LEVEL;
            wires[frames] = 0;
            patches[frames] = 0;
            frames++;
            return true;
        }

        private boolean takeWire(int k, int told) {
            if (outside(k, frames) || outside(told, WIRE_MOST + 1)) {
                return false;
            }
            wires[k] = told - WIRE_LEVEL;
            return true;
        }

        private boolean takePatch(int k, int told) {
            if (outside(k, frames) || outside(told, TOLD_MOST + 1)) {
                return false;
            }
            patches[k] = told - TOLD_LEVEL;
            return true;
        }

        private boolean takePerson(int kind, int bearing) {
            if (persons >= MAX_PERSONS || outside(kind, KINDS) || outside(bearing, MOST_BORNE + 1)) {
                return false;
            }
            kinds[persons] = kind;
            borne[persons] = bearing;
            persons++;
            return true;
        }

        /** Comings are held by hours; of one hour, as told: a later one goes behind its like. */
        private boolean takeComing(int i, int hour, int room) {
            if (comings >= MAX_COMINGS || outside(i, persons) || outside(hour, HOURS)
                    || outside(room, ROOMS)) {
                return false;
            }
            int at = comings;
            while (at > 0 && hours[at - 1] > hour) {
                comers[at] = comers[at - 1];
                hours[at] = hours[at - 1];
                places[at] = places[at - 1];
                at--;
            }
            comers[at] = i;
            hours[at] = hour;
            places[at] = room;
            comings++;
            return true;
        }

        private boolean takeTurn(int nightTold, int k, int byTold) {
            if (told.size >= MAX_TURNS || outside(nightTold, DAYS) || outside(k, frames)
                    || outside(byTold, TOLD_MOST + 1)) {
                return false;
            }
            told.add(nightTold, k, byTold - TOLD_LEVEL);
            return true;
        }

        /** Where the person leaves a frame that he sees at the angle: as it was if he bears it. */
        int setBy(int i, int angle) {
            return Habit.settle(kinds[i], borne[i], angle);
        }

        void twist(int[] row) {
            for (int k = 0; k < frames; k++) {
                row[k] = keptWithin(row[k] + wires[k]);
            }
        }

        /**
         * All comings of a morning: the row's angles become those of the evening, and righted tells
         * which frame each person set right, or NONE. Answers who is hers.
         */
        int letCome(int[] row, int[] righted) {
            Arrays.fill(righted, NONE);
            int won = 0;
            for (int c = 0; c < comings; c++) {
                int i = comers[c];
                int k = righted[i] == NONE ? firstTempting(i, places[c], row) : NONE;
                if (k != NONE) {
                    row[k] = setBy(i, row[k]);
                    righted[i] = k;
                    won |= 1 << i;
                }
            }
            return won;
        }

        private int firstTempting(int i, int room, int[] row) {
            int limit = Habit.farthestBorne(kinds[i], borne[i]);
            for (int k = 0; k < frames; k++) {
                if (rooms[k] == room && Math.abs(row[k]) > limit) {
                    return k;
                }
            }
            return NONE;
        }

        /** How far from level a frame may hang in the room so that nobody who comes there minds. */
        int farthestBorneIn(int room) {
            int least = FARTHEST;
            for (int c = 0; c < comings; c++) {
                if (places[c] == room) {
                    int i = comers[c];
                    least = Math.min(least, Habit.farthestBorne(kinds[i], borne[i]));
                }
            }
            return least;
        }
    }

    /** How people set right, by kind and what they bear. */
    private static final class Habit {
        static int farthestBorne(int kind, int bearing) {
            return kind == LAZY ? 2 * bearing : bearing;
        }

        static int settle(int kind, int bearing, int angle) {
            if (Math.abs(angle) <= farthestBorne(kind, bearing)) {
                return angle;
            }
            switch (kind) {
                case HALF: return angle / 2;
                case OVER: return -(angle / 2);
                case LAZY: return angle > 0 ? bearing : -bearing;
                default: return 0;
            }
        }
    }

    /** Turns in the order in which they were told. */
    private static final class Turns {
        private final int[] nights = new int[MAX_TURNS];
        private final int[] frames = new int[MAX_TURNS];
        private final int[] by = new int[MAX_TURNS];
        private int size;

        void add(int nightTold, int k, int turned) {
            if (size < MAX_TURNS) {
                nights[size] = nightTold;
                frames[size] = k;
                by[size] = turned;
                size++;
            }
        }

        void remove(int at) {
            if (outside(at, size)) {
                return;
            }
            for (int n = at; n < size - 1; n++) {
                nights[n] = nights[n + 1];
                frames[n] = frames[n + 1];
                by[n] = by[n + 1];
            }
            size--;
        }

        void copy(Turns other) {
            size = 0;
            for (int n = 0; n < other.size; n++) {
                add(other.nights[n], other.frames[n], other.by[n]);
            }
        }

        void turnAll(int day, int[] row) {
            for (int n = 0; n < size; n++) {
                if (nights[n] == day) {
                    row[frames[n]] = keptWithin(row[frames[n]] + by[n]);
                }
            }
        }
    }

    /** Turns as they were at several times, the latest on top. */
    private static final class Shelf {
        private final Turns[] rows;
        private int size;

        Shelf(int most) {
            // Never without a place, so that the first and the last place can be used unasked.
            rows = new Turns[Math.max(1, most)];
            for (int n = 0; n < rows.length; n++) {
                rows[n] = new Turns();
            }
        }

        /** On a full shelf the oldest makes room. */
        void put(Turns turns) {
            if (size >= rows.length) {
                Turns oldest = rows[0];
                for (int n = 0; n < rows.length - 1; n++) {
                    rows[n] = rows[n + 1];
                }
                rows[rows.length - 1] = oldest;
                size = rows.length - 1;
            }
            rows[size].copy(turns);
            size++;
        }

        boolean takeLast(Turns turns) {
            if (size == 0) {
                return false;
            }
            size--;
            turns.copy(rows[size]);
            return true;
        }
    }

    /** All days as they go by wires and turns. */
    private static final class Days {
        /** Angles behind the night, ahead of the first coming. */
        private final int[][] mornings = new int[DAYS][MAX_FRAMES];
        private final int[][] evenings = new int[DAYS][MAX_FRAMES];
        private final int[][] righted = new int[DAYS][MAX_PERSONS];
        private final int[] won = new int[DAYS];
        /** Whether house or turns have changed since the days were played. */
        private boolean stale = true;

        void play(House house, Turns turns) {
            int[] ahead = house.angles;
            for (int day = 0; day < DAYS; day++) {
                int[] morning = mornings[day];
                int[] evening = evenings[day];
                System.arraycopy(ahead, 0, morning, 0, MAX_FRAMES);
                house.twist(morning);
                turns.turnAll(day, morning);
                System.arraycopy(morning, 0, evening, 0, MAX_FRAMES);
                won[day] = house.letCome(evening, righted[day]);
                ahead = evening;
            }
            stale = false;
        }

        int firstOfRest(House house) {
            int first = DAYS;
            while (first > 0 && isAsAhead(house, first - 1)) {
                first--;
            }
            return first < DAYS ? first : NONE;
        }

        private boolean isAsAhead(House house, int day) {
            int[] ahead = day > 0 ? evenings[day - 1] : house.angles;
            for (int k = 0; k < house.frames; k++) {
                if (evenings[day][k] != ahead[k]) {
                    return false;
                }
            }
            return true;
        }

        int swaying(int frames) {
            int swaying = 0;
            for (int k = 0; k < frames; k++) {
                if (swaysOne(k)) {
                    swaying++;
                }
            }
            return swaying;
        }

        private boolean swaysOne(int k) {
            for (int day = 1; day < DAYS; day++) {
                if (evenings[day][k] != evenings[0][k]) {
                    return true;
                }
            }
            return false;
        }

        int daysWon(int i) {
            int often = 0;
            for (int day = 0; day < DAYS; day++) {
                often += (won[day] >> i) & 1;
            }
            return often;
        }
    }

    /** Turns more in one night, and whom they get. */
    private static final class Lures {
        private final int[] row = new int[MAX_FRAMES];
        private final int[] righted = new int[MAX_PERSONS];
        /** Of each distance from level the least one that all people treat alike. */
        private final int[] alike = new int[FARTHEST + 1];
        /** Of each frame the distances, one of all that are alike, to which it can be turned. */
        private final int[][] reached = new int[MAX_FRAMES][FARTHEST + 1];
        private final int[] reachedSize = new int[MAX_FRAMES];

        /** TEMPT. */
        int leastTurn(House house, int[] morning, int i) {
            for (int size = 1; size <= MOST_TURNED; size++) {
                for (int k = 0; k < house.frames; k++) {
                    if (isWon(house, morning, k, size, i)) {
                        return 100 * k + TOLD_LEVEL + size;
                    }
                    if (isWon(house, morning, k, -size, i)) {
                        return 100 * k + TOLD_LEVEL - size;
                    }
                }
            }
            return NONE;
        }

        private boolean isWon(House house, int[] morning, int k, int turned, int i) {
            int won = wonWith(house, morning, k, keptWithin(morning[k] + turned));
            return ((won >> i) & 1) == 1;
        }

        /** Who is hers by all single turns together. */
        int anybodyByOne(House house, int[] morning) {
            findAlike(house);
            reachAll(house, morning);
            int won = 0;
            for (int k = 0; k < house.frames; k++) {
                for (int n = 0; n < reachedSize[k]; n++) {
                    won |= wonWith(house, morning, k, reached[k][n]);
                }
            }
            return won;
        }

        /** FEWEST of a set that is not hers without a turn more. */
        int oneOrTwo(House house, int[] morning, int set) {
            findAlike(house);
            reachAll(house, morning);
            for (int k = 0; k < house.frames; k++) {
                if (isWonByReached(house, morning, k, set)) {
                    return 1;
                }
            }
            for (int j = 0; j < house.frames; j++) {
                for (int k = j + 1; k < house.frames; k++) {
                    if (isWonByBoth(house, morning, j, k, set)) {
                        return 2;
                    }
                }
            }
            // Last, as it writes over what one turn reaches.
            for (int k = 0; k < house.frames; k++) {
                reach(house, morning[k], k, 2 * MOST_TURNED);
                if (isWonByReached(house, morning, k, set)) {
                    return 2;
                }
            }
            return NONE;
        }

        private boolean isWonByReached(House house, int[] morning, int k, int set) {
            for (int n = 0; n < reachedSize[k]; n++) {
                if ((wonWith(house, morning, k, reached[k][n]) & set) == set) {
                    return true;
                }
            }
            return false;
        }

        private boolean isWonByBoth(House house, int[] morning, int j, int k, int set) {
            for (int m = 0; m < reachedSize[j]; m++) {
                for (int n = 0; n < reachedSize[k]; n++) {
                    System.arraycopy(morning, 0, row, 0, MAX_FRAMES);
                    row[j] = reached[j][m];
                    row[k] = reached[k][n];
                    if ((house.letCome(row, righted) & set) == set) {
                        return true;
                    }
                }
            }
            return false;
        }

        private int wonWith(House house, int[] morning, int k, int angle) {
            System.arraycopy(morning, 0, row, 0, MAX_FRAMES);
            row[k] = angle;
            return house.letCome(row, righted);
        }

        private void reachAll(House house, int[] morning) {
            for (int k = 0; k < house.frames; k++) {
                reach(house, morning[k], k, MOST_TURNED);
            }
        }

        /**
         * All that the frame's angle can become, told by distances alone: above and below level
         * people do the same. The angle itself is among them, which gets nobody anew. By two turns
         * of 20 at most each angle within 40 is met, kept within or not.
         */
        private void reach(House house, int angle, int k, int most) {
            reachedSize[k] = 0;
            if (!isEntered(house, house.rooms[k])) {
                return;
            }
            for (int to = keptWithin(angle - most); to <= keptWithin(angle + most); to++) {
                addReached(k, alike[Math.abs(to)]);
            }
        }

        private void addReached(int k, int distance) {
            for (int n = 0; n < reachedSize[k]; n++) {
                if (reached[k][n] == distance) {
                    return;
                }
            }
            if (reachedSize[k] <= FARTHEST) {
                reached[k][reachedSize[k]] = distance;
                reachedSize[k]++;
            }
        }

        private static boolean isEntered(House house, int room) {
            for (int c = 0; c < house.comings; c++) {
                if (house.places[c] == room) {
                    return true;
                }
            }
            return false;
        }

        /** Fewer distances to try: pairs of all would be tens of thousands of mornings. */
        private void findAlike(House house) {
            for (int far = 0; far <= FARTHEST; far++) {
                int least = 0;
                while (least < far && !(alike[least] == least && areAlike(house, least, far))) {
                    least++;
                }
                alike[far] = least;
            }
        }

        /** All who set one of them right set the other, too, to what is alike again. */
        private boolean areAlike(House house, int near, int far) {
            for (int i = 0; i < house.persons; i++) {
                int fromNear = Math.abs(house.setBy(i, near));
                int fromFar = Math.abs(house.setBy(i, far));
                boolean bearsNear = fromNear == near;
                boolean bearsFar = fromFar == far;
                if (bearsNear != bearsFar || (!bearsFar && alike[fromNear] != alike[fromFar])) {
                    return false;
                }
            }
            return true;
        }
    }

    /** What somebody was seen to do with a frame. */
    private static final class Sights {
        private final int[] from = new int[MAX_SIGHTS];
        private final int[] to = new int[MAX_SIGHTS];
        private int size;
        /** How many leave a frame at each angle. */
        private final int[] tally = new int[2 * FARTHEST + 1];

        boolean add(int was, int is) {
            if (size >= MAX_SIGHTS) {
                return false;
            }
            from[size] = was;
            to[size] = is;
            size++;
            return true;
        }

        int empty() {
            int was = size;
            size = 0;
            return was;
        }

        /** BEARS. */
        int fitting(int kind) {
            int bits = 0;
            for (int bearing = 0; bearing <= MOST_BORNE; bearing++) {
                if (fits(kind, bearing)) {
                    bits |= 1 << bearing;
                }
            }
            return bits;
        }

        private boolean fits(int kind, int bearing) {
            for (int n = 0; n < size; n++) {
                if (Habit.settle(kind, bearing, from[n]) != to[n]) {
                    return false;
                }
            }
            return true;
        }

        /** LOOK: the angle. */
        int bestLook(int kind, int fitting) {
            int best = 0;
            int fewestAlike = mostAlike(kind, fitting, 0);
            for (int angle = 1; angle <= LOOK_MOST; angle++) {
                int alike = mostAlike(kind, fitting, angle);
                if (alike < fewestAlike) {
                    best = angle;
                    fewestAlike = alike;
                }
            }
            return best;
        }

        /** Of those who may bear what the bits tell, how many at the worst do the same. */
        int mostAlike(int kind, int fitting, int angle) {
            Arrays.fill(tally, 0);
            int worst = 0;
            for (int bearing = 0; bearing <= MOST_BORNE; bearing++) {
                if (((fitting >> bearing) & 1) == 1) {
                    int at = keptWithin(Habit.settle(kind, bearing, angle)) + FARTHEST;
                    tally[at]++;
                    worst = Math.max(worst, tally[at]);
                }
            }
            return worst;
        }
    }

    /** A night by draws. */
    private static final class Draws {
        private static final long PRIME = 65521;
        private final int[] row = new int[MAX_FRAMES];
        private final int[] righted = new int[MAX_PERSONS];

        /** How often anybody is hers; the row then holds the last angles. */
        int play(House house, int z) {
            System.arraycopy(house.angles, 0, row, 0, MAX_FRAMES);
            int often = 0;
            for (int day = 0; day < DAYS; day++) {
                house.twist(row);
                turnOne(house.frames, draw(z, day));
                often += Integer.bitCount(house.letCome(row, righted));
            }
            return often;
        }

        private void turnOne(int frames, int draw) {
            if (frames > 0) {
                int k = draw % frames;
                row[k] = keptWithin(row[k] + draw / 8 % (TOLD_MOST + 1) - TOLD_LEVEL);
            }
        }

        private static int draw(int z, int day) {
            long q = 7919L * z + 6151L * day + 1;
            return (int) (q * q % PRIME);
        }
    }

    /** A wire that twists by chance. */
    private static final class Chance {
        /** One place beside each end stays 0, so that every place that counts has two neighbours. */
        private static final int MIDDLE = WIRE_NIGHTS + 1;
        private int[] ways = new int[2 * MIDDLE + 1];
        private int[] next = new int[2 * MIDDLE + 1];

        /** In how many of all ways, by tenths, the frame is off by how much behind the nights. */
        void twist(int nights, int more, int less) {
            Arrays.fill(ways, 0);
            Arrays.fill(next, 0);
            ways[MIDDLE] = 1;
            for (int n = 0; n < nights; n++) {
                for (int at = 1; at < 2 * MIDDLE; at++) {
                    next[at] = ways[at - 1] * more + ways[at + 1] * less
                            + ways[at] * (TENTHS - more - less);
                }
                int[] old = ways;
                ways = next;
                next = old;
            }
        }

        int waysWithin(int angle, int limit) {
            int sum = 0;
            for (int off = -WIRE_NIGHTS; off <= WIRE_NIGHTS; off++) {
                if (Math.abs(angle + off) <= limit) {
                    sum += ways[MIDDLE + off];
                }
            }
            return sum;
        }

        int allWays(int nights) {
            int all = 1;
            for (int n = 0; n < nights; n++) {
                all *= TENTHS;
            }
            return all;
        }

        static int commonDivisor(int a, int b) {
            int high = a;
            int low = b;
            // Far more steps than two numbers up to a million take.
            for (int step = 0; step < 100 && low != 0; step++) {
                int left = high % low;
                high = low;
                low = left;
            }
            return high;
        }
    }
}
