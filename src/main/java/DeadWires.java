import java.util.NoSuchElementException;

/** A country of fields and of wires that go live, as its document tells it. */
public final class DeadWires {
    public static final int NONE = -1;

    private static final int MOST_FIELDS = 8;
    private static final int MOST_WIRES = 12;
    private static final int MOST_THINGS = 6;
    private static final int MOST_PERSONS = 5;
    private static final int MOST_CLAUSES = 60;
    private static final int MOST_OPEN = 6;
    private static final int MOST_LINES = 8;
    private static final int MOST_BEGUN = 200;
    private static final int MOST_WORKS = 16;
    private static final int MOST_IMAGES = 3;

    private static final int TAPE_BYTES = 600;
    private static final int TEXT_BYTES = 150;
    private static final int BOOK_BYTES = 60;

    private static final int LATEST_LIVE = 199;
    private static final int LATEST_HOUR = 400;
    private static final int MOST_LEFT = 99;
    private static final int MOST_TIRED = 60;
    private static final int MOST_TOLL = 40;
    private static final int REST = 5;
    private static final int MOST_AHEAD = 99;
    private static final int MOST_WAIT = 200;
    private static final int MOST_MOVE = 20;
    private static final int MOST_LATER = 40;

    private static final int CANT_STAND = 1;
    private static final int NO_SUCH_NUMBER = 2;
    private static final int TOO_MANY = 3;
    private static final int FAULT_LESS = 10;
    private static final int WORKS_FULL = -20;

    /** Kinds of what is read; a sign's kind is its own byte, so these lie above all bytes. */
    private static final int END = 256;
    private static final int NUMBER = 257;
    private static final int WORD = 258;

    private final Tape tape;
    private final Land land;
    private final Land landRead;
    private final Law law;
    private final Law lawRead;
    private final Book book;
    private final Book bookRead;
    private final Days days;
    private final Work steps;
    private final Shelf shelf;
    private final Ways ways;
    private final Guess guess;
    private final Autumns autumns;
    private int missed;
    private int misused;

    public DeadWires() {
        tape = new Tape();
        land = new Land();
        landRead = new Land();
        law = new Law();
        lawRead = new Law();
        book = new Book();
        bookRead = new Book();
        days = new Days(land, law);
        steps = new Work(days);
        shelf = new Shelf(days);
        ways = new Ways(days);
        guess = new Guess(days, book);
        autumns = new Autumns(days);
    }

    // ---- texts ----

    public int feed(int a, int b, int c, int d, int e) {
        if (!tape.hasRoom()) {
            return NONE;
        }
        tape.add(a);
        tape.add(b);
        tape.add(c);
        tape.add(d);
        tape.add(e);
        return tape.held;
    }

    public int country(int n) throws IllegalArgumentException {
        needText(n, TAPE_BYTES);
        tape.open(n);
        if (!landRead.read(tape)) {
            return tape.faultKind - FAULT_LESS;
        }
        land.copy(landRead);
        law.clear();
        book.clear();
        days.begin();
        shelf.clear();
        steps.refused = 0;
        return land.wires;
    }

    public int law(int n) throws IllegalArgumentException {
        needText(n, TEXT_BYTES);
        tape.open(n);
        if (!lawRead.read(tape)) {
            return tape.faultKind - FAULT_LESS;
        }
        law.copy(lawRead);
        return 1;
    }

    public int work(int n) throws IllegalArgumentException {
        needText(n, TEXT_BYTES);
        if (shelf.works >= MOST_WORKS) {
            tape.drop();
            return WORKS_FULL;
        }
        tape.open(n);
        if (!steps.read(tape)) {
            return tape.faultKind - FAULT_LESS;
        }
        shelf.keep();
        steps.run();
        return steps.done;
    }

    public int book(int n) throws IllegalArgumentException {
        needText(n, BOOK_BYTES);
        tape.open(n);
        if (!bookRead.read(tape)) {
            return tape.faultKind - FAULT_LESS;
        }
        book.copy(bookRead);
        return book.lines;
    }

    public int fault() {
        return tape.faultPlace;
    }

    public int undo() {
        if (shelf.works <= 0) {
            return NONE;
        }
        shelf.back();
        steps.refused = 0;
        return shelf.works;
    }

    // ---- what is so now ----

    public int told(int what) throws IllegalArgumentException {
        needWhat(what, 11);
        switch (what) {
            case 0: return land.fields;
            case 1: return land.wires;
            case 2: return land.things;
            case 3: return land.persons;
            case 4: return days.hour;
            case 5: return days.liveBits(0);
            case 6: return days.cutBits;
            case 7: return days.pliersLeft;
            case 8: return days.carriedBits();
            case 9: return book.lines;
            case 10: return steps.refused;
            default: return days.crossings;
        }
    }

    public int field(int field, int what) throws NoSuchElementException, IllegalArgumentException {
        needField(field);
        needWhat(what, 3);
        switch (what) {
            case 0: return days.lyingBits(field);
            case 1: return days.peopleBits(field);
            case 2: return land.wiresAt(field);
            default: return ways.spread(1 << field, days.hour, 0) & ~(1 << field);
        }
    }

    public int wire(int wire, int what) throws NoSuchElementException, IllegalArgumentException {
        needWire(wire);
        needWhat(what, 6);
        switch (what) {
            case 0: return at(land.endA, wire);
            case 1: return at(land.endB, wire);
            case 2: return at(days.liveFrom, wire);
            case 3: return at(land.liveTold, wire);
            case 4: return days.isLive(wire, 0) ? 1 : 0;
            case 5: return days.isCut(wire) ? 1 : 0;
            default: return days.hoursLeft(wire);
        }
    }

    public int thing(int thing, int what) throws NoSuchElementException, IllegalArgumentException {
        needThere(within(thing, 0, land.things - 1));
        needWhat(what, 2);
        switch (what) {
            case 0: return at(land.weight, thing);
            case 1: return days.placeOfThing(thing);
            default: return at(days.thingBy, thing);
        }
    }

    public int person(int person, int what) throws NoSuchElementException, IllegalArgumentException {
        needPerson(person);
        needWhat(what, 4);
        switch (what) {
            case 0: return at(land.strength, person);
            case 1: return at(days.personAt, person);
            case 2: return at(days.tired, person);
            case 3: return days.loadOf(person);
            default: return days.carriedBy(person);
        }
    }

    public int toll(int person, int wire) throws NoSuchElementException {
        needPerson(person);
        needWire(wire);
        return days.tollOf(person, wire);
    }

    public int would(int load, int strong, int tired, int left, int hour, int wires, int person)
            throws IllegalArgumentException {
        need(within(load, 0, 180) && within(strong, 1, 40) && within(tired, 0, MOST_TIRED));
        need(within(left, 0, MOST_LEFT) && within(hour, 0, LATEST_HOUR));
        need(within(wires, 0, MOST_WIRES) && within(person, 0, MOST_PERSONS - 1));
        law.setValues(load, strong, tired, left, hour, wires, person);
        return law.reckon();
    }

    public boolean can(int person, int wire) throws NoSuchElementException {
        needPerson(person);
        needWire(wire);
        return days.canCross(person, wire);
    }

    // ---- questions ----

    public int ahead(int n, int what) throws IllegalArgumentException {
        need(within(n, 0, MOST_AHEAD));
        needWhat(what, 2);
        switch (what) {
            case 0: return days.liveBits(n);
            case 1: return days.tiredTogether(n);
            default: return days.wireLiveAt(days.hour + n);
        }
    }

    public int arrives(int field, int other) throws NoSuchElementException {
        needField(field);
        needField(other);
        return ways.hoursTo(field, other, 0, 0);
    }

    public int waits(int field, int other) throws NoSuchElementException {
        needField(field);
        needField(other);
        return ways.longestWait(field, other);
    }

    public int grant(int field, int other) throws NoSuchElementException {
        needField(field);
        needField(other);
        return ways.leastGrant(field, other);
    }

    public int pliers(int field, int other) throws NoSuchElementException {
        needField(field);
        needField(other);
        return ways.fewestCuts(field, other);
    }

    public int haul(int person, int what) throws NoSuchElementException, IllegalArgumentException {
        needPerson(person);
        needWhat(what, 1);
        int bits = days.bestHaul(person);
        return what == 0 ? land.weightOf(bits) : bits;
    }

    public int fits(int what) throws IllegalArgumentException {
        needWhat(what, 1);
        guess.collect();
        return what == 0 ? guess.pairs : guess.firstPair();
    }

    public int look(int what) throws IllegalArgumentException {
        needWhat(what, 1);
        guess.collect();
        guess.chooseLook();
        return what == 0 ? guess.lookAt : guess.leftAtWorst;
    }

    public int parts(int n) throws IllegalArgumentException {
        need(within(n, 0, MOST_AHEAD));
        return ways.setsOfFields(days.hour + n);
    }

    public long tingle(int n, int q, int part) throws IllegalArgumentException {
        need(within(n, 0, 12) && within(q, 0, 16));
        needWhat(part, 1);
        long above = n == 0 ? 0L : n * (long) q * power(16 - q, n - 1);
        long below = power(16, n);
        long common = greatestDivisor(above, below);
        if (common <= 0) {
            return 0L;
        }
        return part == 0 ? above / common : below / common;
    }

    public int lean(int v, int w, int what) throws IllegalArgumentException {
        need(within(v, 0, 99) && within(w, 0, 99));
        needWhat(what, 2);
        int rests = 0;
        int first = NONE;
        int together = 0;
        for (int pair = 0; pair < 4; pair++) {
            int one = pair >> 1;
            int other = pair & 1;
            if (rests(v, w, one, other)) {
                if (rests == 0) {
                    first = 10 * one + other;
                    together = gain(v, w, one, other) + gain(v, w, other, one);
                }
                rests++;
            }
        }
        if (what == 0) {
            return rests;
        }
        return what == 1 ? first : together;
    }

    public int grace(int wire, int wires, int n) throws NoSuchElementException, IllegalArgumentException {
        needWire(wire);
        need((wires & ~((1 << land.wires) - 1)) == 0 && within(n, 0, 999));
        if (!has(wires, wire)) {
            return 0;
        }
        return Math.min(days.hoursLeft(wire), days.graceBound(wires, n));
    }

    public int next(int what) throws IllegalArgumentException {
        needWhat(what, 1);
        int wire = days.nextWire();
        if (wire == NONE || what == 0) {
            return wire;
        }
        return at(days.liveFrom, wire) - days.hour;
    }

    public int harp(int what) throws IllegalArgumentException {
        needWhat(what, 1);
        int best = NONE;
        int most = NONE;
        for (int f = 0; f < land.fields; f++) {
            int many = land.wiresAt(f);
            if (many > most) {
                most = many;
                best = f;
            }
        }
        return what == 0 ? best : most;
    }

    public int stuck() {
        int bits = 0;
        for (int p = 0; p < land.persons; p++) {
            if (!days.canCrossAny(p)) {
                bits |= 1 << p;
            }
        }
        return bits;
    }

    public int moved() {
        return days.movedBits();
    }

    public int gates(int field, int what) throws NoSuchElementException, IllegalArgumentException {
        needField(field);
        needWhat(what, 2);
        int here = land.wireBitsAt(field);
        int live = days.liveBits(0);
        if (what == 0) {
            return here & live;
        }
        return what == 1 ? here & days.cutBits : here & ~live & ~days.cutBits;
    }

    public int ground(int field, int n) throws NoSuchElementException, IllegalArgumentException {
        needField(field);
        need(within(n, 0, MOST_AHEAD));
        return ways.fieldsWithin(field, n);
    }

    public int freest(int what) throws IllegalArgumentException {
        needWhat(what, 1);
        int best = NONE;
        int most = NONE;
        for (int p = 0; p < land.persons; p++) {
            int free = days.freeOf(p);
            if (free > most) {
                most = free;
                best = p;
            }
        }
        return what == 0 ? best : most;
    }

    public int autumn(int seed, int q, int hours, int what) throws IllegalArgumentException {
        need(within(q, 0, 16) && within(hours, 1, 96));
        needWhat(what, 3);
        autumns.go(seed, q, hours);
        switch (what) {
            case 0: return autumns.crossings();
            case 1: return autumns.dream.carriedBits();
            case 2: return autumns.dream.liveBits(0);
            default: return autumns.dream.tiredTogether(0);
        }
    }

    public int span(int seed, int many, int q, int hours, int what, int person)
            throws IllegalArgumentException {
        need(within(many, 1, 20) && within(q, 0, 16) && within(hours, 1, 96));
        needWhat(what, 2);
        need(within(person, 0, land.persons - 1));
        int fewest = 0;
        int most = 0;
        int elsewhere = 0;
        for (int i = 0; i < many; i++) {
            autumns.go(seed + i, q, hours);
            int crossings = autumns.crossings();
            fewest = i == 0 ? crossings : Math.min(fewest, crossings);
            most = Math.max(most, crossings);
            elsewhere += autumns.isElsewhere(person) ? 1 : 0;
        }
        if (what == 0) {
            return fewest;
        }
        return what == 1 ? most : elsewhere;
    }

    // ---- what is kept ----

    public int image() {
        if (shelf.images >= MOST_IMAGES) {
            return NONE;
        }
        shelf.keepImage();
        return shelf.images;
    }

    public int restore() {
        if (shelf.images <= 0) {
            return NONE;
        }
        shelf.bringImage();
        steps.refused = 0;
        return shelf.images;
    }

    public int status(int what) {
        if (what == 0) {
            return missed;
        }
        return what == 1 ? misused : NONE;
    }

    public int count(int what) {
        switch (what) {
            case 0: return shelf.images;
            case 1: return tape.held;
            case 2: return shelf.works;
            default: return NONE;
        }
    }

    // ---- refusals: each is counted here before it is thrown ----

    private void needThere(boolean there) {
        if (!there) {
            missed++;
            throw new NoSuchElementException();
        }
    }

    private void need(boolean right) {
        if (!right) {
            misused++;
            throw new IllegalArgumentException();
        }
    }

    private void needField(int field) {
        needThere(within(field, 0, land.fields - 1));
    }

    private void needWire(int wire) {
        needThere(within(wire, 0, land.wires - 1));
    }

    private void needPerson(int person) {
        needThere(within(person, 0, land.persons - 1));
    }

    private void needWhat(int what, int last) {
        need(within(what, 0, last));
    }

    private void needText(int n, int most) {
        need(within(n, 0, Math.min(tape.held, most)));
    }

    // ---- small things that many use ----

    private static boolean within(int value, int least, int most) {
        return value >= least && value <= most;
    }

    private static int clamp(int value, int least, int most) {
        if (value < least) {
            return least;
        }
        return value > most ? most : value;
    }

    /** An element by an index that comes from data: tested here, so that no place can forget it. */
    private static int at(int[] row, int index) {
        return index >= 0 && index < row.length ? row[index] : NONE;
    }

    private static void put(int[] row, int index, int value) {
        if (index >= 0 && index < row.length) {
            row[index] = value;
        }
    }

    private static boolean has(int bits, int bit) {
        return (bits >> bit & 1) != 0;
    }

    private static long power(int base, int times) {
        long product = 1L;
        for (int i = 0; i < times; i++) {
            product *= base;
        }
        return product;
    }

    private static long greatestDivisor(long one, long other) {
        long a = one;
        long b = other;
        // Euclid's steps halve the numbers every second time, so 64-bit ones need fewer than 128.
        for (int i = 0; i < 128 && b != 0L; i++) {
            long rest = a % b;
            a = b;
            b = rest;
        }
        return a;
    }

    /** What one has who does mine (0 leans, 1 not) while the other one does his. */
    private static int gain(int v, int w, int mine, int his) {
        if (mine != 0) {
            return 0;
        }
        return his == 0 ? v : -w;
    }

    private static boolean rests(int v, int w, int one, int other) {
        return gain(v, w, one, other) >= gain(v, w, 1 - one, other)
                && gain(v, w, other, one) >= gain(v, w, 1 - other, one);
    }

    /** The bytes that were fed, and the reading of a text from their beginning. */
    private static final class Tape {
        /** Above every bound of a number in a text, so that long numbers stay wrong and do not wrap. */
        private static final int HUGE = 1000000;

        private final int[] bytes = new int[TAPE_BYTES];
        private int length;
        private int place;
        int held;
        int kind = END;
        int start;
        int value;
        int faultKind;
        int faultPlace = NONE;

        boolean hasRoom() {
            return held + 20 <= TAPE_BYTES;
        }

        void add(int four) {
            for (int shift = 24; shift >= 0; shift -= 8) {
                if (held < bytes.length) {
                    bytes[held] = four >>> shift & 255;
                    held++;
                }
            }
        }

        /** Nothing is on the tape any more, and no text has a fault. */
        void drop() {
            held = 0;
            faultKind = 0;
            faultPlace = NONE;
        }

        /** The first n bytes become the text; they stay readable until bytes are fed again. */
        void open(int n) {
            drop();
            length = clamp(n, 0, bytes.length);
            place = 0;
            advance();
        }

        /** Goes on to the next number, word or sign, over the blanks ahead of it. */
        void advance() {
            while (place < length && bytes[place] == ' ') {
                place++;
            }
            start = place;
            if (place >= length) {
                kind = END;
                return;
            }
            kind = bytes[place];
            if (kind >= '0' && kind <= '9') {
                kind = NUMBER;
                value = 0;
                while (place < length && bytes[place] >= '0' && bytes[place] <= '9') {
                    value = value >= HUGE ? HUGE : value * 10 + bytes[place] - '0';
                    place++;
                }
            } else if (kind >= 'a' && kind <= 'z') {
                kind = WORD;
                while (place < length && bytes[place] >= 'a' && bytes[place] <= 'z') {
                    place++;
                }
            } else {
                place++;
            }
        }

        boolean isWord(String word) {
            if (kind != WORD || place - start != word.length()) {
                return false;
            }
            for (int i = 0; i < word.length(); i++) {
                if (at(bytes, start + i) != word.charAt(i)) {
                    return false;
                }
            }
            return true;
        }

        /** Notes a fault at what is being read; false, so that a reader can answer it on. */
        boolean fail(int fault) {
            faultKind = fault;
            faultPlace = start;
            return false;
        }

        boolean takeSign(int sign) {
            if (kind != sign) {
                return fail(CANT_STAND);
            }
            advance();
            return true;
        }

        /** Steps over what is known to stand here, unless there is one too many of it. */
        boolean takeUnless(boolean tooMany) {
            if (tooMany) {
                return fail(TOO_MANY);
            }
            advance();
            return true;
        }

        /** The number here, or NONE with its fault. */
        int takeNumber(int least, int most) {
            if (kind != NUMBER) {
                fail(CANT_STAND);
                return NONE;
            }
            int number = value;
            if (!within(number, least, most)) {
                fail(NO_SUCH_NUMBER);
                return NONE;
            }
            advance();
            return number;
        }
    }

    /** The country as told: what no work changes. */
    private static final class Land {
        private static final int FIRST_PLIERS = 2;
        private static final int MOST_PLIERS = 9;
        private static final int MOST_LIVE_TOLD = 99;
        private static final int MOST_WEIGHT = 30;
        private static final int MOST_STRENGTH = 40;

        int fields;
        int wires;
        int things;
        int persons;
        int pliersTold = FIRST_PLIERS;
        final int[] endA = new int[MOST_WIRES];
        final int[] endB = new int[MOST_WIRES];
        final int[] liveTold = new int[MOST_WIRES];
        final int[] thingField = new int[MOST_THINGS];
        final int[] weight = new int[MOST_THINGS];
        final int[] personField = new int[MOST_PERSONS];
        final int[] strength = new int[MOST_PERSONS];

        void copy(Land other) {
            fields = other.fields;
            wires = other.wires;
            things = other.things;
            persons = other.persons;
            pliersTold = other.pliersTold;
            System.arraycopy(other.endA, 0, endA, 0, MOST_WIRES);
            System.arraycopy(other.endB, 0, endB, 0, MOST_WIRES);
            System.arraycopy(other.liveTold, 0, liveTold, 0, MOST_WIRES);
            System.arraycopy(other.thingField, 0, thingField, 0, MOST_THINGS);
            System.arraycopy(other.weight, 0, weight, 0, MOST_THINGS);
            System.arraycopy(other.personField, 0, personField, 0, MOST_PERSONS);
            System.arraycopy(other.strength, 0, strength, 0, MOST_PERSONS);
        }

        int wireBitsAt(int field) {
            int bits = 0;
            for (int w = 0; w < wires; w++) {
                if (endA[w] == field || endB[w] == field) {
                    bits |= 1 << w;
                }
            }
            return bits;
        }

        int wiresAt(int field) {
            return Integer.bitCount(wireBitsAt(field));
        }

        /** The other end of a wire; NONE, if the field is at none of its ends. */
        int across(int wire, int field) {
            int a = at(endA, wire);
            int b = at(endB, wire);
            if (field == a) {
                return b;
            }
            return field == b ? a : NONE;
        }

        int weightOf(int bits) {
            int sum = 0;
            for (int t = 0; t < things; t++) {
                if (has(bits, t)) {
                    sum += weight[t];
                }
            }
            return sum;
        }

        boolean read(Tape text) {
            fields = 0;
            wires = 0;
            things = 0;
            persons = 0;
            pliersTold = FIRST_PLIERS;
            for (int clauses = 0; clauses <= MOST_CLAUSES; clauses++) {
                if (text.kind == END) {
                    return true;
                }
                if (!readClause(text, clauses >= MOST_CLAUSES) || !text.takeSign(';')) {
                    return false;
                }
            }
            return false;
        }

        private boolean readClause(Tape text, boolean full) {
            if (text.isWord("fields")) {
                return text.takeUnless(full) && readFields(text);
            }
            if (text.isWord("wire")) {
                return text.takeUnless(full || wires >= MOST_WIRES) && readWire(text);
            }
            if (text.isWord("thing")) {
                return text.takeUnless(full || things >= MOST_THINGS) && readThing(text);
            }
            if (text.isWord("person")) {
                return text.takeUnless(full || persons >= MOST_PERSONS) && readPerson(text);
            }
            if (text.isWord("pliers")) {
                return text.takeUnless(full) && readPliers(text);
            }
            return text.fail(CANT_STAND);
        }

        private boolean readFields(Tape text) {
            int more = text.takeNumber(1, MOST_FIELDS - fields);
            if (more == NONE) {
                return false;
            }
            fields += more;
            return true;
        }

        private boolean readWire(Tape text) {
            int a = text.takeNumber(0, fields - 1);
            if (a == NONE) {
                return false;
            }
            if (text.kind == NUMBER && (text.value == a || isWired(a, text.value))) {
                return text.fail(NO_SUCH_NUMBER);
            }
            int b = text.takeNumber(0, fields - 1);
            if (b == NONE) {
                return false;
            }
            int hour = text.takeNumber(0, MOST_LIVE_TOLD);
            if (hour == NONE) {
                return false;
            }
            put(endA, wires, a);
            put(endB, wires, b);
            put(liveTold, wires, hour);
            wires++;
            return true;
        }

        private boolean isWired(int a, int b) {
            for (int w = 0; w < wires; w++) {
                if (across(w, a) == b) {
                    return true;
                }
            }
            return false;
        }

        private boolean readThing(Tape text) {
            int field = text.takeNumber(0, fields - 1);
            if (field == NONE) {
                return false;
            }
            int heavy = text.takeNumber(1, MOST_WEIGHT);
            if (heavy == NONE) {
                return false;
            }
            put(thingField, things, field);
            put(weight, things, heavy);
            things++;
            return true;
        }

        private boolean readPerson(Tape text) {
            int field = text.takeNumber(0, fields - 1);
            if (field == NONE) {
                return false;
            }
            int strong = text.takeNumber(1, MOST_STRENGTH);
            if (strong == NONE) {
                return false;
            }
            put(personField, persons, field);
            put(strength, persons, strong);
            persons++;
            return true;
        }

        private boolean readPliers(Tape text) {
            int pairs = text.takeNumber(0, MOST_PLIERS);
            if (pairs == NONE) {
                return false;
            }
            pliersTold = pairs;
            return true;
        }
    }

    /** The law, kept with each sign behind what it joins, so that a crossing reckons without reading. */
    private static final class Law {
        /** Codes beside the signs + - * / % themselves. */
        private static final int CONSTANT = 1;
        private static final int VALUE = 2;
        private static final int LEAST = 3;
        private static final int MOST = 4;

        private static final int LOAD = 0;
        private static final int STRONG = 1;
        private static final int TIRED = 2;
        private static final int LEFT = 3;
        private static final int HOUR = 4;
        private static final int WIRES = 5;
        private static final int PERSON = 6;
        private static final int MOST_CONSTANT = 999;

        private final int[] codes = new int[TEXT_BYTES];
        private final int[] numbers = new int[TEXT_BYTES];
        private final int[] values = new int[7];
        private final int[] stack = new int[TEXT_BYTES];
        private int size;
        private int top;

        Law() {
            clear();
        }

        /** The law without a text: 1 + load / 4. */
        void clear() {
            size = 0;
            add(CONSTANT, 1);
            add(VALUE, LOAD);
            add(CONSTANT, 4);
            add('/', 0);
            add('+', 0);
        }

        void copy(Law other) {
            size = other.size;
            System.arraycopy(other.codes, 0, codes, 0, TEXT_BYTES);
            System.arraycopy(other.numbers, 0, numbers, 0, TEXT_BYTES);
        }

        private boolean add(int code, int number) {
            put(codes, size, code);
            put(numbers, size, number);
            // A text's part of one code is one byte long at least, so there is always room.
            size = Math.min(size + 1, TEXT_BYTES);
            return true;
        }

        boolean read(Tape text) {
            size = 0;
            return readSum(text, 0) && (text.kind == END || text.fail(CANT_STAND));
        }

        private boolean readSum(Tape text, int open) {
            if (!readProduct(text, open)) {
                return false;
            }
            for (int i = 0; i < TEXT_BYTES; i++) {
                int sign = text.kind;
                if (sign != '+' && sign != '-') {
                    return true;
                }
                text.advance();
                if (!readProduct(text, open)) {
                    return false;
                }
                add(sign, 0);
            }
            return true;
        }

        private boolean readProduct(Tape text, int open) {
            if (!readUnit(text, open)) {
                return false;
            }
            for (int i = 0; i < TEXT_BYTES; i++) {
                int sign = text.kind;
                if (sign != '*' && sign != '/' && sign != '%') {
                    return true;
                }
                text.advance();
                if (!readUnit(text, open)) {
                    return false;
                }
                add(sign, 0);
            }
            return true;
        }

        private boolean readUnit(Tape text, int open) {
            if (text.kind == NUMBER) {
                int number = text.takeNumber(0, MOST_CONSTANT);
                return number != NONE && add(CONSTANT, number);
            }
            if (text.kind == '(') {
                return text.takeUnless(open >= MOST_OPEN) && readSum(text, open + 1) && text.takeSign(')');
            }
            if (text.isWord("least")) {
                return readChoice(text, open) && add(LEAST, 0);
            }
            if (text.isWord("most")) {
                return readChoice(text, open) && add(MOST, 0);
            }
            int name = nameHere(text);
            if (name == NONE) {
                return text.fail(CANT_STAND);
            }
            text.advance();
            return add(VALUE, name);
        }

        private boolean readChoice(Tape text, int open) {
            return text.takeUnless(open >= MOST_OPEN)
                    && text.takeSign('[') && readSum(text, open + 1)
                    && text.takeSign(',') && readSum(text, open + 1)
                    && text.takeSign(']');
        }

        private static int nameHere(Tape text) {
            if (text.isWord("load")) {
                return LOAD;
            }
            if (text.isWord("strong")) {
                return STRONG;
            }
            if (text.isWord("tired")) {
                return TIRED;
            }
            if (text.isWord("left")) {
                return LEFT;
            }
            if (text.isWord("hour")) {
                return HOUR;
            }
            if (text.isWord("wires")) {
                return WIRES;
            }
            return text.isWord("person") ? PERSON : NONE;
        }

        void setValues(int load, int strong, int tired, int left, int hour, int wires, int person) {
            values[LOAD] = load;
            values[STRONG] = strong;
            values[TIRED] = tired;
            values[LEFT] = left;
            values[HOUR] = hour;
            values[WIRES] = wires;
            values[PERSON] = person;
        }

        /** The toll by the values that were set. */
        int reckon() {
            top = 0;
            for (int i = 0; i < size; i++) {
                int code = codes[i];
                if (code == CONSTANT) {
                    push(numbers[i]);
                } else if (code == VALUE) {
                    push(at(values, numbers[i]));
                } else {
                    int right = pop();
                    int left = pop();
                    push(join(code, left, right));
                }
            }
            return clamp(pop(), 0, MOST_TOLL);
        }

        private void push(int value) {
            if (top < stack.length) {
                stack[top] = value;
                top++;
            }
        }

        private int pop() {
            if (top <= 0) {
                return 0;
            }
            top--;
            return stack[top];
        }

        private static int join(int code, int left, int right) {
            switch (code) {
                case '+': return left + right;
                case '-': return left - right;
                case '*': return left * right;
                case '/': return right == 0 ? 0 : left / right;
                case '%': return right == 0 ? 0 : left % right;
                case LEAST: return left <= right ? left : right;
                default: return left >= right ? left : right;
            }
        }
    }

    /** What is told of how many wires are live when. */
    private static final class Book {
        int lines;
        final int[] later = new int[MOST_LINES];
        final int[] many = new int[MOST_LINES];

        void clear() {
            lines = 0;
        }

        void copy(Book other) {
            lines = other.lines;
            System.arraycopy(other.later, 0, later, 0, MOST_LINES);
            System.arraycopy(other.many, 0, many, 0, MOST_LINES);
        }

        boolean tells(int hours) {
            for (int i = 0; i < lines; i++) {
                if (later[i] == hours) {
                    return true;
                }
            }
            return false;
        }

        boolean read(Tape text) {
            lines = 0;
            for (int i = 0; i <= MOST_LINES; i++) {
                if (text.kind == END) {
                    return true;
                }
                if (!readLine(text)) {
                    return false;
                }
            }
            return false;
        }

        private boolean readLine(Tape text) {
            boolean isNumber = text.kind == NUMBER;
            if (isNumber && tells(text.value)) {
                return text.fail(NO_SUCH_NUMBER);
            }
            // Not for a wrong number: of faults at one place the least counts.
            if (isNumber && text.value <= MOST_LATER && lines >= MOST_LINES) {
                return text.fail(TOO_MANY);
            }
            int hours = text.takeNumber(0, MOST_LATER);
            if (hours == NONE) {
                return false;
            }
            int wires = text.takeNumber(0, MOST_WIRES);
            if (wires == NONE || !text.takeSign(';')) {
                return false;
            }
            put(later, lines, hours);
            put(many, lines, wires);
            lines++;
            return true;
        }
    }

    /** The country by now: all that work changes, and how each step changes it. */
    private static final class Days {
        /** Numbers that a saved state takes: hour, pliers, cut wires, crossings, then the rows. */
        static final int ROW = 4 + MOST_WIRES + 2 * MOST_THINGS + 2 * MOST_PERSONS;

        final Land land;
        private final Law law;
        int hour;
        int pliersLeft;
        int cutBits;
        int crossings;
        final int[] liveFrom = new int[MOST_WIRES];
        final int[] thingAt = new int[MOST_THINGS];
        final int[] thingBy = new int[MOST_THINGS];
        final int[] personAt = new int[MOST_PERSONS];
        final int[] tired = new int[MOST_PERSONS];

        Days(Land land, Law law) {
            this.land = land;
            this.law = law;
            begin();
        }

        void begin() {
            hour = 0;
            pliersLeft = land.pliersTold;
            cutBits = 0;
            crossings = 0;
            System.arraycopy(land.liveTold, 0, liveFrom, 0, MOST_WIRES);
            System.arraycopy(land.thingField, 0, thingAt, 0, MOST_THINGS);
            System.arraycopy(land.personField, 0, personAt, 0, MOST_PERSONS);
            for (int t = 0; t < MOST_THINGS; t++) {
                thingBy[t] = NONE;
            }
            for (int p = 0; p < MOST_PERSONS; p++) {
                tired[p] = 0;
            }
        }

        void save(int[] rows, int row) {
            int from = row * ROW;
            if (!within(from, 0, rows.length - ROW)) {
                return;
            }
            rows[from] = hour;
            rows[from + 1] = pliersLeft;
            rows[from + 2] = cutBits;
            rows[from + 3] = crossings;
            int next = from + 4;
            System.arraycopy(liveFrom, 0, rows, next, MOST_WIRES);
            next += MOST_WIRES;
            System.arraycopy(thingAt, 0, rows, next, MOST_THINGS);
            next += MOST_THINGS;
            System.arraycopy(thingBy, 0, rows, next, MOST_THINGS);
            next += MOST_THINGS;
            System.arraycopy(personAt, 0, rows, next, MOST_PERSONS);
            next += MOST_PERSONS;
            System.arraycopy(tired, 0, rows, next, MOST_PERSONS);
        }

        void load(int[] rows, int row) {
            int from = row * ROW;
            if (!within(from, 0, rows.length - ROW)) {
                return;
            }
            hour = rows[from];
            pliersLeft = rows[from + 1];
            cutBits = rows[from + 2];
            crossings = rows[from + 3];
            int next = from + 4;
            System.arraycopy(rows, next, liveFrom, 0, MOST_WIRES);
            next += MOST_WIRES;
            System.arraycopy(rows, next, thingAt, 0, MOST_THINGS);
            next += MOST_THINGS;
            System.arraycopy(rows, next, thingBy, 0, MOST_THINGS);
            next += MOST_THINGS;
            System.arraycopy(rows, next, personAt, 0, MOST_PERSONS);
            next += MOST_PERSONS;
            System.arraycopy(rows, next, tired, 0, MOST_PERSONS);
        }

        boolean isCut(int wire) {
            return (cutBits >> wire & 1) != 0;
        }

        boolean isLive(int wire, int later) {
            return !isCut(wire) && hour + later >= at(liveFrom, wire);
        }

        int liveBits(int later) {
            int bits = 0;
            for (int w = 0; w < land.wires; w++) {
                if (isLive(w, later)) {
                    bits |= 1 << w;
                }
            }
            return bits;
        }

        int movedBits() {
            int bits = 0;
            for (int w = 0; w < land.wires; w++) {
                if (liveFrom[w] != land.liveTold[w]) {
                    bits |= 1 << w;
                }
            }
            return bits;
        }

        int hoursLeft(int wire) {
            return isCut(wire) ? MOST_LEFT : clamp(at(liveFrom, wire) - hour, 0, MOST_LEFT);
        }

        /** The first wire that goes live at just that hour. */
        int wireLiveAt(int thatHour) {
            for (int w = 0; w < land.wires; w++) {
                if (!isCut(w) && liveFrom[w] == thatHour) {
                    return w;
                }
            }
            return NONE;
        }

        /** The wire that goes live next, of those that are neither live nor cut. */
        int nextWire() {
            int best = NONE;
            for (int w = 0; w < land.wires; w++) {
                boolean waits = !isCut(w) && liveFrom[w] > hour;
                if (waits && (best == NONE || liveFrom[w] < at(liveFrom, best))) {
                    best = w;
                }
            }
            return best;
        }

        /** The greatest bound by which the wires are given no more than n together. */
        int graceBound(int wires, int n) {
            for (int bound = MOST_LEFT; bound > 0; bound--) {
                if (givenBy(wires, bound) <= n) {
                    return bound;
                }
            }
            return 0;
        }

        private int givenBy(int wires, int bound) {
            int sum = 0;
            for (int w = 0; w < land.wires; w++) {
                if (has(wires, w)) {
                    sum += Math.min(bound, hoursLeft(w));
                }
            }
            return sum;
        }

        int placeOfThing(int thing) {
            int by = at(thingBy, thing);
            return by == NONE ? at(thingAt, thing) : at(personAt, by);
        }

        int lyingBits(int field) {
            int bits = 0;
            for (int t = 0; t < land.things; t++) {
                if (thingBy[t] == NONE && thingAt[t] == field) {
                    bits |= 1 << t;
                }
            }
            return bits;
        }

        int peopleBits(int field) {
            int bits = 0;
            for (int p = 0; p < land.persons; p++) {
                if (personAt[p] == field) {
                    bits |= 1 << p;
                }
            }
            return bits;
        }

        int carriedBits() {
            int bits = 0;
            for (int t = 0; t < land.things; t++) {
                if (thingBy[t] != NONE) {
                    bits |= 1 << t;
                }
            }
            return bits;
        }

        int carriedBy(int person) {
            int bits = 0;
            for (int t = 0; t < land.things; t++) {
                if (thingBy[t] == person) {
                    bits |= 1 << t;
                }
            }
            return bits;
        }

        int loadOf(int person) {
            int sum = 0;
            for (int t = 0; t < land.things; t++) {
                if (thingBy[t] == person) {
                    sum += land.weight[t];
                }
            }
            return sum;
        }

        int freeOf(int person) {
            return at(land.strength, person) - loadOf(person);
        }

        int tiredTogether(int later) {
            int sum = 0;
            for (int p = 0; p < land.persons; p++) {
                sum += Math.max(0, tired[p] - REST * later);
            }
            return sum;
        }

        int bestHaul(int person) {
            int lying = lyingBits(at(personAt, person));
            int free = freeOf(person);
            int best = 0;
            int most = 0;
            for (int bits = 1; bits < 1 << MOST_THINGS; bits++) {
                int sum = land.weightOf(bits);
                if ((bits & ~lying) == 0 && sum <= free && sum > most) {
                    most = sum;
                    best = bits;
                }
            }
            return best;
        }

        int tollOf(int person, int wire) {
            int field = at(personAt, person);
            law.setValues(loadOf(person), at(land.strength, person), at(tired, person),
                    hoursLeft(wire), hour, land.wiresAt(field), person);
            return law.reckon();
        }

        private boolean isOpenTo(int person, int wire) {
            return !isLive(wire, 0) && land.across(wire, at(personAt, person)) != NONE;
        }

        boolean canCross(int person, int wire) {
            return isOpenTo(person, wire) && at(tired, person) + tollOf(person, wire) <= MOST_TIRED;
        }

        boolean canCrossAny(int person) {
            for (int w = 0; w < land.wires; w++) {
                if (canCross(person, w)) {
                    return true;
                }
            }
            return false;
        }

        // The steps: each answers whether it was done, and changes nothing if not.

        boolean cross(int person, int wire) {
            if (!isOpenTo(person, wire)) {
                return false;
            }
            int then = at(tired, person) + tollOf(person, wire);
            if (then > MOST_TIRED) {
                return false;
            }
            put(tired, person, then);
            put(personAt, person, land.across(wire, at(personAt, person)));
            crossings++;
            return true;
        }

        boolean lift(int person, int thing) {
            boolean lies = has(lyingBits(at(personAt, person)), thing);
            if (!lies || at(land.weight, thing) > freeOf(person)) {
                return false;
            }
            put(thingBy, thing, person);
            return true;
        }

        boolean setDown(int person, int thing) {
            if (at(thingBy, thing) != person) {
                return false;
            }
            put(thingBy, thing, NONE);
            put(thingAt, thing, at(personAt, person));
            return true;
        }

        boolean move(int wire, int more) {
            int from = at(liveFrom, wire);
            if (isCut(wire) || isLive(wire, 0) || from >= LATEST_LIVE) {
                return false;
            }
            put(liveFrom, wire, Math.min(LATEST_LIVE, from + more));
            return true;
        }

        boolean cut(int wire) {
            if (isCut(wire) || pliersLeft <= 0) {
                return false;
            }
            cutBits |= 1 << wire;
            pliersLeft--;
            return true;
        }

        boolean hourStep() {
            if (hour >= LATEST_HOUR) {
                return false;
            }
            passHour();
            return true;
        }

        void passHour() {
            for (int p = 0; p < land.persons; p++) {
                tired[p] = Math.max(0, tired[p] - REST);
            }
            hour++;
        }
    }

    /** Work as read, and its being done. */
    private static final class Work {
        private static final int LIFT = 0;
        private static final int SET = 1;
        private static final int CROSS = 2;
        private static final int MOVE = 3;
        private static final int CUT = 4;
        private static final int HOUR = 5;
        private static final int AGAIN = 6;
        private static final int MOST_TIMES = 40;

        private final Days days;
        private final Land land;
        private final int[] kinds = new int[TEXT_BYTES];
        private final int[] firsts = new int[TEXT_BYTES];
        /** Of an again: the place behind its last step. */
        private final int[] seconds = new int[TEXT_BYTES];
        private int size;
        private int begun;
        int done;
        int refused;

        Work(Days days) {
            this.days = days;
            this.land = days.land;
        }

        boolean read(Tape text) {
            size = 0;
            return readSteps(text, 0) && (text.kind == END || text.fail(CANT_STAND));
        }

        /** Steps as long as words stand there; what may stand behind them the caller knows. */
        private boolean readSteps(Tape text, int open) {
            for (int i = 0; i < TEXT_BYTES; i++) {
                if (text.kind != WORD) {
                    return true;
                }
                if (!readStep(text, open) || !text.takeSign(';')) {
                    return false;
                }
            }
            return true;
        }

        private boolean readStep(Tape text, int open) {
            if (text.isWord("lift")) {
                return readTwo(text, LIFT, land.persons, 0, land.things - 1);
            }
            if (text.isWord("set")) {
                return readTwo(text, SET, land.persons, 0, land.things - 1);
            }
            if (text.isWord("cross")) {
                return readTwo(text, CROSS, land.persons, 0, land.wires - 1);
            }
            if (text.isWord("move")) {
                return readTwo(text, MOVE, land.wires, 1, MOST_MOVE);
            }
            if (text.isWord("cut")) {
                text.advance();
                int wire = text.takeNumber(0, land.wires - 1);
                return wire != NONE && add(CUT, wire, 0);
            }
            if (text.isWord("hour")) {
                text.advance();
                return add(HOUR, 0, 0);
            }
            if (text.isWord("again")) {
                return readAgain(text, open);
            }
            return text.fail(CANT_STAND);
        }

        /** A word with two numbers, the first one of so many. */
        private boolean readTwo(Tape text, int kind, int many, int least, int most) {
            text.advance();
            int first = text.takeNumber(0, many - 1);
            if (first == NONE) {
                return false;
            }
            int second = text.takeNumber(least, most);
            return second != NONE && add(kind, first, second);
        }

        private boolean readAgain(Tape text, int open) {
            if (!text.takeUnless(open >= MOST_OPEN)) {
                return false;
            }
            int times = text.takeNumber(0, MOST_TIMES);
            if (times == NONE || !text.takeSign('[')) {
                return false;
            }
            int place = size;
            add(AGAIN, times, size + 1);
            if (!readSteps(text, open + 1) || !text.takeSign(']')) {
                return false;
            }
            put(seconds, place, size);
            return true;
        }

        private boolean add(int kind, int first, int second) {
            put(kinds, size, kind);
            put(firsts, size, first);
            put(seconds, size, second);
            // A step's text is longer than one byte, so there is always room.
            size = Math.min(size + 1, TEXT_BYTES);
            return true;
        }

        void run() {
            begun = 0;
            done = 0;
            refused = 0;
            runSteps(0, size, 0);
        }

        private void runSteps(int from, int to, int open) {
            int place = from;
            while (place < to && begun < MOST_BEGUN) {
                begun++;
                int behind = place + 1;
                if (at(kinds, place) == AGAIN) {
                    behind = Math.max(behind, at(seconds, place));
                    runAgain(place, behind, open);
                } else if (runStep(place)) {
                    done++;
                } else {
                    refused++;
                }
                place = behind;
            }
        }

        private void runAgain(int place, int behind, int open) {
            int times = at(firsts, place);
            if (open >= MOST_OPEN) {
                return;
            }
            for (int i = 0; i < times && begun < MOST_BEGUN; i++) {
                runSteps(place + 1, behind, open + 1);
            }
        }

        private boolean runStep(int place) {
            int first = at(firsts, place);
            int second = at(seconds, place);
            switch (at(kinds, place)) {
                case LIFT: return days.lift(first, second);
                case SET: return days.setDown(first, second);
                case CROSS: return days.cross(first, second);
                case MOVE: return days.move(first, second);
                case CUT: return days.cut(first);
                default: return days.hourStep();
            }
        }
    }

    /** The states ahead of the works that can be undone, and the images. */
    private static final class Shelf {
        private static final int IMAGE_ROWS = 1 + MOST_WORKS;

        private final Days days;
        private final int[] before = new int[MOST_WORKS * Days.ROW];
        /** Of each image the state, then the states ahead of its works. */
        private final int[] imageRows = new int[MOST_IMAGES * IMAGE_ROWS * Days.ROW];
        private final int[] imageWorks = new int[MOST_IMAGES];
        int works;
        int images;

        Shelf(Days days) {
            this.days = days;
        }

        void clear() {
            works = 0;
            images = 0;
        }

        void keep() {
            if (works < MOST_WORKS) {
                days.save(before, works);
                works++;
            }
        }

        void back() {
            if (works > 0) {
                works--;
                days.load(before, works);
            }
        }

        void keepImage() {
            if (images < MOST_IMAGES) {
                int row = images * IMAGE_ROWS;
                days.save(imageRows, row);
                System.arraycopy(before, 0, imageRows, (row + 1) * Days.ROW, before.length);
                imageWorks[images] = works;
                images++;
            }
        }

        void bringImage() {
            if (images > 0) {
                images--;
                int row = images * IMAGE_ROWS;
                days.load(imageRows, row);
                System.arraycopy(imageRows, (row + 1) * Days.ROW, before, 0, before.length);
                works = imageWorks[images];
            }
        }
    }

    /** Ways from field to field. */
    private static final class Ways {
        /** More than any way costs, and far from wrapping when a wire's cost is added. */
        private static final int FAR = 1 << 30;
        private static final int WIRE_BITS = (1 << MOST_WIRES) - 1;
        /** Of the numbers up to MOST_WAIT. */
        private static final int HIGHEST_BIT = 128;

        private final Days days;
        private final Land land;
        private final int[] costs = new int[MOST_FIELDS];

        Ways(Days days) {
            this.days = days;
            this.land = days.land;
        }

        /** The fields, and those that a wire not live at that hour joins to them, were all so much later. */
        int spread(int fields, int hour, int granted) {
            int bits = fields;
            for (int w = 0; w < land.wires; w++) {
                if (days.isCut(w) || hour < days.liveFrom[w] + granted) {
                    bits |= has(fields, land.endA[w]) ? 1 << land.endB[w] : 0;
                    bits |= has(fields, land.endB[w]) ? 1 << land.endA[w] : 0;
                }
            }
            return bits;
        }

        int hoursTo(int from, int to, int wait, int granted) {
            int bits = 1 << from;
            // Wires only go live, so each hour brings a new field, or none ever comes again.
            for (int hours = 0; hours < MOST_FIELDS; hours++) {
                if (has(bits, to)) {
                    return hours;
                }
                bits = spread(bits, days.hour + wait + hours, granted);
            }
            return NONE;
        }

        int fieldsWithin(int from, int n) {
            int bits = 1 << from;
            for (int hours = 0; hours < n && hours < MOST_FIELDS; hours++) {
                bits = spread(bits, days.hour + hours, 0);
            }
            return bits;
        }

        /** Whoever may wait so long may wait less, so the bits of the most are found from the highest on. */
        int longestWait(int from, int to) {
            if (hoursTo(from, to, 0, 0) == NONE) {
                return NONE;
            }
            int wait = 0;
            for (int bit = HIGHEST_BIT; bit > 0; bit >>= 1) {
                if (wait + bit <= MOST_WAIT && hoursTo(from, to, wait + bit, 0) != NONE) {
                    wait += bit;
                }
            }
            return wait;
        }

        /** Likewise the most hours that are too few; the least that do are one more. */
        int leastGrant(int from, int to) {
            if (hoursTo(from, to, 0, 0) != NONE) {
                return 0;
            }
            int tooFew = 0;
            for (int bit = HIGHEST_BIT; bit > 0; bit >>= 1) {
                if (tooFew + bit <= MOST_WAIT && hoursTo(from, to, 0, tooFew + bit) == NONE) {
                    tooFew += bit;
                }
            }
            return tooFew < MOST_WAIT ? tooFew + 1 : NONE;
        }

        int setsOfFields(int hour) {
            int seen = 0;
            int sets = 0;
            for (int f = 0; f < land.fields; f++) {
                if (!has(seen, f)) {
                    sets++;
                    seen |= setAround(f, hour);
                }
            }
            return sets;
        }

        private int setAround(int field, int hour) {
            int bits = 1 << field;
            for (int i = 0; i < MOST_FIELDS; i++) {
                bits = spread(bits, hour, 0);
            }
            return bits;
        }

        /**
         * The wires to cut. A wire's cost is its bit and one more above all bits, so the cheapest way
         * has the fewest wires, and of as few the least bits.
         */
        int fewestCuts(int from, int to) {
            for (int f = 0; f < MOST_FIELDS; f++) {
                costs[f] = f == from ? 0 : FAR;
            }
            for (int i = 0; i < MOST_FIELDS; i++) {
                for (int w = 0; w < land.wires; w++) {
                    int cost = days.isCut(w) ? 0 : WIRE_BITS + 1 + (1 << w);
                    cheapen(land.endA[w], land.endB[w], cost);
                    cheapen(land.endB[w], land.endA[w], cost);
                }
            }
            int cheapest = at(costs, to);
            return cheapest >= FAR ? NONE : cheapest & WIRE_BITS;
        }

        private void cheapen(int near, int off, int cost) {
            put(costs, off, Math.min(at(costs, off), at(costs, near) + cost));
        }
    }

    /** Which wire was moved, as far as the book tells. */
    private static final class Guess {
        private static final int MOST_PAIRS = MOST_WIRES * MOST_MOVE;

        private final Days days;
        private final Book book;
        private final int[] pairWire = new int[MOST_PAIRS];
        private final int[] pairMore = new int[MOST_PAIRS];
        /** How many fewer have to be live than are by now, line for line. */
        private final int[] fewer = new int[MOST_LINES];
        int pairs;
        int lookAt;
        int leftAtWorst;

        Guess(Days days, Book book) {
            this.days = days;
            this.book = book;
        }

        /** Collects the pairs that the book leaves. */
        void collect() {
            pairs = 0;
            for (int i = 0; i < book.lines; i++) {
                fewer[i] = Integer.bitCount(days.liveBits(book.later[i])) - book.many[i];
            }
            for (int w = 0; w < days.land.wires; w++) {
                for (int more = 1; more <= MOST_MOVE; more++) {
                    if (!days.isCut(w) && agrees(w, more) && pairs < MOST_PAIRS) {
                        pairWire[pairs] = w;
                        pairMore[pairs] = more;
                        pairs++;
                    }
                }
            }
        }

        private boolean agrees(int wire, int more) {
            for (int i = 0; i < book.lines; i++) {
                if (lost(wire, more, book.later[i]) != fewer[i]) {
                    return false;
                }
            }
            return true;
        }

        /** By how many fewer are live so many hours later, were that wire so much later: 0 or 1. */
        private int lost(int wire, int more, int later) {
            int from = at(days.liveFrom, wire);
            int then = days.hour + later;
            return then >= from && then < from + more ? 1 : 0;
        }

        int firstPair() {
            return pairs == 0 ? NONE : 100 * pairWire[0] + pairMore[0];
        }

        void chooseLook() {
            lookAt = NONE;
            leftAtWorst = NONE;
            for (int later = 0; later <= MOST_LATER; later++) {
                if (!book.tells(later)) {
                    int worst = worstAt(later);
                    if (lookAt == NONE || worst < leftAtWorst) {
                        lookAt = later;
                        leftAtWorst = worst;
                    }
                }
            }
        }

        /** A pair leaves as many live as there are, or one less: so two counts tell all. */
        private int worstAt(int later) {
            int one = 0;
            for (int i = 0; i < pairs; i++) {
                one += lost(pairWire[i], pairMore[i], later);
            }
            return Math.max(one, pairs - one);
        }
    }

    /** Autumns, gone through in a dream so that nothing stays changed. */
    private static final class Autumns {
        private static final int TIMES = 1103515245;
        private static final int PLUS = 12345;
        private static final int LATER = 3;
        private static final int SIDES = 16;

        private final Days days;
        final Days dream;
        private final int[] row = new int[Days.ROW];
        private int seed;

        Autumns(Days days) {
            this.days = days;
            this.dream = new Days(days.land, days.law);
        }

        void go(int firstSeed, int q, int hours) {
            days.save(row, 0);
            dream.load(row, 0);
            seed = firstSeed;
            boolean draws = days.land.persons > 0 && days.land.wires > 0;
            for (int i = 0; i < hours; i++) {
                if (draws) {
                    drawSteps(q);
                }
                dream.passHour();
            }
        }

        private void drawSteps(int q) {
            int person = draw(days.land.persons);
            int wire = draw(days.land.wires);
            dream.cross(person, wire);
            if (days.land.things > 0) {
                dream.lift(person, draw(days.land.things));
            }
            if (draw(SIDES) < q) {
                dream.move(wire, LATER);
            }
        }

        private int draw(int by) {
            seed = seed * TIMES + PLUS;
            int bits = seed >>> 16 & 32767;
            return by <= 0 ? 0 : bits % by;
        }

        int crossings() {
            return dream.crossings - days.crossings;
        }

        boolean isElsewhere(int person) {
            return at(dream.personAt, person) != at(days.personAt, person);
        }
    }
}
