import java.util.NoSuchElementException;

/** Weather that is inherited: a land of people with skies, told by a text, and what happens to them. */
public final class SkyHeirs {
    public static final int NONE = -1;

    private static final int SPENT = -2;
    private static final int PEOPLE = 12;
    private static final int PARTS = 4;
    private static final int SUN = 0;
    private static final int RAIN = 1;
    private static final int COLD = 3;
    private static final int NO_PART = 4;
    private static final int HAIL = 5;
    private static final int PLACES = 10;
    private static final int WILLS = 12;
    private static final int FIELDS = 6;
    private static final int SEEN = 4;
    private static final int ACTS = 40;
    private static final int TAPE = 700;
    private static final int FED = 20;
    private static final int MUCH = 9999;
    private static final int NOON_SUN = 10;
    private static final int PLAIN_FRONT = 300;
    private static final int MOST_DAYS = 100;
    private static final int MOST_YEARS = 60;
    private static final int MOST_DEATHS = 3;
    private static final int MOST_ARRANGED = 6;
    private static final int MOST_SOWN = 4;
    private static final int LEAST_SEATED = 3;
    private static final int MOST_SEATED = 7;
    private static final int UNRIPE_GAIN = 5;
    private static final int REFUSED_TEXTS = 0;
    private static final int REFUSED_ACTS = 1;
    private static final int REFUSED_SEEN = 2;
    private static final int STATUSES = 3;

    private final int[] tape = new int[TAPE];
    private int tapeLength = 0;
    private int faultPlace = NONE;
    private final Reader reader = new Reader();
    private final Land land = new Land();
    private final Story now = new Story();
    private final Story kept = new Story();
    private boolean imageKept = false;
    private final World trial = new World();
    private final Estate estate = new Estate();
    private final DeathSearch deathSearch = new DeathSearch();
    private final Arranging arranging = new Arranging();
    private final Seating seating = new Seating();
    private final Fitting fitting = new Fitting();
    private final int[] ground = new int[FIELDS];

    public SkyHeirs() {
    }

    // ---- the text ----

    public int feed(int a, int b, int c, int d, int e) {
        if (tapeLength + FED > TAPE) {
            return NONE;
        }
        append(a);
        append(b);
        append(c);
        append(d);
        append(e);
        return tapeLength;
    }

    private void append(int number) {
        for (int shift = 24; shift >= 0; shift -= 8) {
            put(tape, tapeLength, (number >>> shift) & 255);
            tapeLength++;
        }
    }

    public int land(int n) throws IllegalArgumentException {
        if (n < 0 || n > tapeLength) {
            throw new IllegalArgumentException();
        }
        tapeLength = 0;
        int fault = reader.read(tape, n);
        faultPlace = reader.faultPlace;
        if (fault != 0) {
            now.refuse(REFUSED_TEXTS);
            return fault;
        }
        land.copyFrom(reader.land);
        now.begin(reader.world);
        imageKept = false;
        deathSearch.forgetRow();
        arranging.forgetRow();
        seating.forgetRow();
        return 0;
    }

    public int fault() {
        return faultPlace;
    }

    // ---- what is ----

    public int count(int what) throws NoSuchElementException {
        switch (what) {
            case 0: return land.people;
            case 1: return now.world.manyAlive();
            case 2: return land.wills;
            case 3: return land.fields;
            case 4: return now.world.manyRipe(land);
            case 5: return land.frontFrom;
            case 6: return now.world.allNoons();
            case 7: return now.acts;
            case 8: return now.seen;
            case 9: return tapeLength;
            case 10: return at(now.status, REFUSED_TEXTS);
            case 11: return at(now.status, REFUSED_ACTS);
            case 12: return at(now.status, REFUSED_SEEN);
            default: throw new NoSuchElementException();
        }
    }

    public int person(int person, int what) throws NoSuchElementException {
        needPerson(person);
        switch (what) {
            case 0: return now.world.alive(person) ? 1 : 0;
            case 1: return now.world.place(person);
            case 2: return land.manyParents(person);
            case 3: return at(land.firstParent, person);
            case 4: return at(land.secondParent, person);
            case 5: return at(land.adopted, person);
            case 6: return now.world.spouse(person);
            default: throw new NoSuchElementException();
        }
    }

    public int sky(int person, int part) throws NoSuchElementException {
        needPerson(person);
        needPart(part);
        return now.world.part(person, part);
    }

    public int weather(int place, int what) throws NoSuchElementException {
        if (!isPlace(place)) {
            throw new NoSuchElementException();
        }
        switch (what) {
            case 0:
            case 1:
            case 2:
            case 3: return now.world.falls(place, what);
            case 4: return now.world.kind(place);
            case 5: return now.world.manyThere(place);
            case 6: return now.world.noons(place);
            default: throw new NoSuchElementException();
        }
    }

    public int field(int field, int what) throws NoSuchElementException {
        if (field < 0 || field >= land.fields) {
            throw new NoSuchElementException();
        }
        switch (what) {
            case 0: return at(land.fieldPlace, field);
            case 1: return at(land.wantSun, field);
            case 2: return at(land.wantRain, field);
            case 3: return now.world.got(field, SUN);
            case 4: return now.world.got(field, RAIN);
            case 5: return now.world.ripe(land, field) ? 1 : 0;
            default: throw new NoSuchElementException();
        }
    }

    public int front(int one, int other) throws NoSuchElementException, IllegalArgumentException {
        needPerson(one);
        needPerson(other);
        needTwoAlive(one, other);
        int apart = now.world.apart(one, other);
        return apart >= land.frontFrom ? -1 - apart : apart;
    }

    public int kin(int one, int other) throws NoSuchElementException {
        needPerson(one);
        needPerson(other);
        int reached = 1 << one;
        for (int steps = 0; steps <= PEOPLE; steps++) {
            if (((reached >> other) & 1) == 1) {
                return steps;
            }
            reached = stepFurther(reached);
        }
        return NONE;
    }

    private int stepFurther(int reached) {
        int further = reached;
        for (int from = 0; from < land.people; from++) {
            if (((reached >> from) & 1) == 1) {
                further |= nextOfKin(from);
            }
        }
        return further;
    }

    private int nextOfKin(int from) {
        int bits = 0;
        for (int to = 0; to < land.people; to++) {
            if (land.isParent(from, to) || land.isParent(to, from) || now.world.spouse(from) == to) {
                bits |= 1 << to;
            }
        }
        return bits;
    }

    // ---- acts ----

    public int go(int person, int place) throws NoSuchElementException {
        needPerson(person);
        if (!now.world.alive(person) || !isPlace(place)) {
            return refusedAct();
        }
        int before = now.world.place(person);
        now.keepAct();
        now.world.setPlace(person, place);
        return before;
    }

    public boolean wed(int one, int other) throws NoSuchElementException {
        needPerson(one);
        needPerson(other);
        if (one == other || !now.world.free(one) || !now.world.free(other)) {
            now.refuse(REFUSED_ACTS);
            return false;
        }
        now.keepAct();
        now.world.leaveSpouse(one);
        now.world.leaveSpouse(other);
        now.world.join(one, other);
        return true;
    }

    public int die(int person) throws NoSuchElementException {
        needPerson(person);
        if (!now.world.alive(person)) {
            return refusedAct();
        }
        now.keepAct();
        return bury(now.world, person);
    }

    private int bury(World world, int dead) {
        estate.learn(land, world, dead);
        estate.settle(land, world, dead);
        estate.handOver(world, dead);
        return estate.heirs;
    }

    public int pawn(int person, int other, int part, int much) throws NoSuchElementException {
        needPerson(person);
        needPerson(other);
        needPart(part);
        World world = now.world;
        if (person == other || !world.alive(person) || !world.alive(other)) {
            return refusedAct();
        }
        if (much < 1 || much > world.part(person, part)) {
            return refusedAct();
        }
        now.keepAct();
        world.addPart(person, part, -much);
        world.addPart(other, part, much);
        return world.part(other, part);
    }

    public int days(int many) {
        if (many < 1 || many > MOST_DAYS) {
            return refusedAct();
        }
        now.keepAct();
        now.world.passDays(land, many);
        return now.world.manyRipe(land);
    }

    public int undo() {
        return now.takeBackAct() ? now.acts : NONE;
    }

    private int refusedAct() {
        now.refuse(REFUSED_ACTS);
        return NONE;
    }

    // ---- who would get what ----

    public int heir(int person, int heir, int part) throws NoSuchElementException, IllegalArgumentException {
        needPerson(person);
        needPerson(heir);
        needPart(part);
        if (person == heir || !now.world.alive(person)) {
            throw new IllegalArgumentException();
        }
        estate.learn(land, now.world, person);
        estate.settle(land, now.world, person);
        return estate.portion(heir, now.world.part(person, part));
    }

    public int failing() {
        int bits = 0;
        for (int owner = 0; owner < land.people; owner++) {
            if (now.world.alive(owner) && land.hasWill(owner) && !hasWillToAlive(owner)) {
                bits |= 1 << owner;
            }
        }
        return bits;
    }

    private boolean hasWillToAlive(int owner) {
        for (int heir = 0; heir < land.people; heir++) {
            if (now.world.alive(heir) && land.left(owner, heir) > 0) {
                return true;
            }
        }
        return false;
    }

    public int contested(int person) throws NoSuchElementException {
        needPerson(person);
        if (!now.world.alive(person)) {
            return 0;
        }
        estate.learn(land, now.world, person);
        int bits = 0;
        for (int other = 0; other < land.people; other++) {
            estate.settle(land, now.world, person);
            int byWill = estate.portions(now.world, person, other);
            estate.settleByLaw(now.world, person);
            if (estate.portions(now.world, person, other) > byWill) {
                bits |= 1 << other;
            }
        }
        return bits;
    }

    public int deaths(int person, int part, int much) throws NoSuchElementException, IllegalArgumentException {
        needPerson(person);
        needPart(part);
        if (much < 1 || much > MUCH || !now.world.alive(person)) {
            throw new IllegalArgumentException();
        }
        for (int dead = 0; dead < land.people; dead++) {
            estate.learn(land, now.world, dead);
        }
        deathSearch.aim(person, part, much);
        return deathSearch.find(land, now.world, estate);
    }

    public int death(int i) throws NoSuchElementException {
        if (i < 0 || i >= deathSearch.keptLength) {
            throw new NoSuchElementException();
        }
        return at(deathSearch.kept, i);
    }

    // ---- where and how all should be ----

    public int arrange() {
        if (now.world.manyAlive() > MOST_ARRANGED || land.fields > MOST_SOWN) {
            return SPENT;
        }
        return arranging.search(land, now.world);
    }

    public int post(int person) throws NoSuchElementException {
        needPerson(person);
        if (((arranging.arranged >> person) & 1) == 0) {
            throw new NoSuchElementException();
        }
        return at(arranging.kept, person);
    }

    public int seatings() {
        int alive = now.world.manyAlive();
        if (alive < LEAST_SEATED || alive > MOST_SEATED) {
            return SPENT;
        }
        return seating.search(land, now.world);
    }

    public int seat(int i) throws NoSuchElementException {
        if (i < 0 || i >= seating.keptLength) {
            throw new NoSuchElementException();
        }
        return at(seating.kept, i);
    }

    // ---- who was there ----

    public int see(int part, int much) throws NoSuchElementException {
        needPart(part);
        if (now.seen >= SEEN || much < 0 || much > MUCH) {
            now.refuse(REFUSED_SEEN);
            return NONE;
        }
        now.addSeen(part, much);
        return now.seen;
    }

    public int forget() {
        if (now.seen < 1) {
            return NONE;
        }
        now.seen--;
        return now.seen;
    }

    public int fits(int what) throws NoSuchElementException {
        if (what < 0 || what > 3) {
            throw new NoSuchElementException();
        }
        fitting.search(now);
        switch (what) {
            case 0: return fitting.sets;
            case 1: return fitting.least;
            case 2: return fitting.sets > 0 ? fitting.common : 0;
            default: return fitting.askNext(now.world);
        }
    }

    // ---- suitors ----

    public int suitors(int one, int other, int what) throws NoSuchElementException, IllegalArgumentException {
        needPerson(one);
        needPerson(other);
        if (what < 0 || what > 1) {
            throw new NoSuchElementException();
        }
        needTwoAlive(one, other);
        surveyGround(one, other);
        int many = 0;
        int first = NONE;
        for (int mine = 0; mine < land.fields; mine++) {
            for (int theirs = 0; theirs < land.fields; theirs++) {
                if (contentAt(mine, theirs) && contentAt(theirs, mine)) {
                    many++;
                    first = first == NONE ? mine * 10 + theirs : first;
                }
            }
        }
        return what == 0 ? many : first;
    }

    /** What the place of each field holds for either suitor: neither counts, so it is the same for both. */
    private void surveyGround(int one, int other) {
        for (int field = 0; field < land.fields; field++) {
            int place = at(land.fieldPlace, field);
            int sun = now.world.falls(place, SUN);
            if (now.world.place(one) == place) {
                sun -= now.world.part(one, SUN);
            }
            if (now.world.place(other) == place) {
                sun -= now.world.part(other, SUN);
            }
            put(ground, field, sun);
        }
    }

    private boolean contentAt(int mine, int theirs) {
        int gain = gainAt(mine, theirs);
        for (int another = 0; another < land.fields; another++) {
            if (gainAt(another, theirs) > gain) {
                return false;
            }
        }
        return true;
    }

    private int gainAt(int mine, int theirs) {
        int gain = at(ground, mine);
        if (mine == theirs) {
            gain = gain / 2;
        }
        return now.world.ripe(land, mine) ? gain : gain + UNRIPE_GAIN;
    }

    // ---- a century ----

    public int century(int seed, int n, int what) throws NoSuchElementException, IllegalArgumentException {
        if (what < 0 || what > 2) {
            throw new NoSuchElementException();
        }
        if (n < 0 || n > MOST_YEARS) {
            throw new IllegalArgumentException();
        }
        trial.copyFrom(now.world);
        int state = seed;
        for (int year = 0; year < n; year++) {
            state = passFate(state);
            trial.passDays(land, 1);
        }
        switch (what) {
            case 0: return trial.manyAlive();
            case 1: return trial.manyRipe(land);
            default: return trial.allNoons();
        }
    }

    private int passFate(int state) {
        if (land.people < 1) {
            return state;
        }
        int next = nextSeed(state);
        int who = draw(next, land.people);
        next = nextSeed(next);
        int place = draw(next, PLACES);
        if (!trial.alive(who)) {
            return next;
        }
        trial.setPlace(who, place);
        next = nextSeed(next);
        if (draw(next, 4) == 0) {
            bury(trial, who);
        }
        return next;
    }

    private static int nextSeed(int seed) {
        return seed * 1103515245 + 12345;
    }

    private static int draw(int seed, int n) {
        return n < 1 ? 0 : ((seed >>> 16) & 32767) % n;
    }

    // ---- an image ----

    public void image() {
        kept.copyFrom(now);
        imageKept = true;
    }

    public boolean restore() {
        if (!imageKept) {
            return false;
        }
        now.copyFrom(kept);
        return true;
    }

    // ---- tests of arguments ----

    private void needPerson(int person) throws NoSuchElementException {
        if (person < 0 || person >= land.people) {
            throw new NoSuchElementException();
        }
    }

    private static void needPart(int part) throws NoSuchElementException {
        if (part < 0 || part >= PARTS) {
            throw new NoSuchElementException();
        }
    }

    private void needTwoAlive(int one, int other) throws IllegalArgumentException {
        if (one == other || !now.world.alive(one) || !now.world.alive(other)) {
            throw new IllegalArgumentException();
        }
    }

    private static boolean isPlace(int place) {
        return place >= 0 && place < PLACES;
    }

    // ---- rows, looked at before they are used ----

    private static int at(int[] row, int i) {
        return row != null && i >= 0 && i < row.length ? row[i] : 0;
    }

    private static void put(int[] row, int i, int value) {
        if (row != null && i >= 0 && i < row.length) {
            row[i] = value;
        }
    }

    private static void fill(int[] row, int from, int to, int value) {
        for (int i = from; i < to; i++) {
            put(row, i, value);
        }
    }

    private static void copyRow(int[] from, int[] to) {
        copyCells(from, 0, to, 0, from == null ? 0 : from.length);
    }

    private static void copyCells(int[] from, int fromAt, int[] to, int toAt, int many) {
        if (from == null || to == null || many < 0 || fromAt < 0 || toAt < 0) {
            return;
        }
        if (fromAt <= from.length - many && toAt <= to.length - many) {
            System.arraycopy(from, fromAt, to, toAt, many);
        }
    }

    /** The greatest of four parts, of like ones the first; NO_PART if none is above 0. */
    private static int greatest(int sun, int rain, int wind, int cold) {
        int most = Math.max(Math.max(sun, rain), Math.max(wind, cold));
        if (most <= 0) {
            return NO_PART;
        }
        if (sun == most) {
            return 0;
        }
        if (rain == most) {
            return 1;
        }
        return wind == most ? 2 : 3;
    }

    /** What a text tells and no act changes. */
    private static final class Land {
        int people = 0;
        final int[] firstParent = new int[PEOPLE];
        final int[] secondParent = new int[PEOPLE];
        final int[] adopted = new int[PEOPLE];
        int wills = 0;
        final int[] shares = new int[PEOPLE * PEOPLE];
        int fields = 0;
        final int[] fieldPlace = new int[FIELDS];
        final int[] wantSun = new int[FIELDS];
        final int[] wantRain = new int[FIELDS];
        int frontFrom = PLAIN_FRONT;
        final Law law = new Law();

        void clear() {
            people = 0;
            wills = 0;
            fields = 0;
            frontFrom = PLAIN_FRONT;
            fill(shares, 0, PEOPLE * PEOPLE, 0);
            law.clear();
        }

        void copyFrom(Land other) {
            people = other.people;
            wills = other.wills;
            fields = other.fields;
            frontFrom = other.frontFrom;
            copyRow(other.firstParent, firstParent);
            copyRow(other.secondParent, secondParent);
            copyRow(other.adopted, adopted);
            copyRow(other.shares, shares);
            copyRow(other.fieldPlace, fieldPlace);
            copyRow(other.wantSun, wantSun);
            copyRow(other.wantRain, wantRain);
            law.copyFrom(other.law);
        }

        void addPerson(int first, int second, boolean isAdopted) {
            put(firstParent, people, first);
            put(secondParent, people, second);
            put(adopted, people, isAdopted ? 1 : 0);
            people++;
        }

        void addWill(int owner, int heir, int share) {
            put(shares, owner * PEOPLE + heir, share);
            wills++;
        }

        void addField(int place, int sun, int rain) {
            put(fieldPlace, fields, place);
            put(wantSun, fields, sun);
            put(wantRain, fields, rain);
            fields++;
        }

        boolean hasFieldAt(int place) {
            for (int field = 0; field < fields; field++) {
                if (at(fieldPlace, field) == place) {
                    return true;
                }
            }
            return false;
        }

        /** The share that one's will leaves to another one; 0 without such a will. */
        int left(int owner, int heir) {
            return at(shares, owner * PEOPLE + heir);
        }

        boolean hasWill(int owner) {
            for (int heir = 0; heir < people; heir++) {
                if (left(owner, heir) > 0) {
                    return true;
                }
            }
            return false;
        }

        int manyParents(int person) {
            int first = at(firstParent, person) == NONE ? 0 : 1;
            int second = at(secondParent, person) == NONE ? 0 : 1;
            return first + second;
        }

        boolean isParent(int parent, int child) {
            return at(firstParent, child) == parent || at(secondParent, child) == parent;
        }

        boolean isAdopted(int person) {
            return at(adopted, person) == 1;
        }

        boolean areSiblings(int one, int other) {
            int first = at(firstParent, other);
            int second = at(secondParent, other);
            return isOneOf(at(firstParent, one), first, second) || isOneOf(at(secondParent, one), first, second);
        }

        private static boolean isOneOf(int parent, int first, int second) {
            return parent != NONE && (parent == first || parent == second);
        }
    }

    /** The rule that is told, as a row of steps for a stack: a number pushes itself. */
    private static final class Law {
        static final int CHILD = -1;
        static final int ADOPTED = -2;
        static final int SPOUSE = -3;
        static final int PARENT = -4;
        static final int SIBLING = -5;
        static final int NUMBER = -6;
        static final int HERE = -7;
        static final int NOT = -11;
        static final int OR = -12;
        static final int AND = -13;
        static final int LESS = -14;
        static final int EQUAL = -15;
        static final int PLUS = -16;
        static final int MINUS = -17;
        static final int TIMES = -18;
        static final int BY = -19;
        static final int MOST_GIVEN = 999;
        static final int STACK = 64;

        final int[] steps = new int[TAPE];
        final int[] stack = new int[STACK];
        int length = 0;
        boolean told = false;

        void clear() {
            length = 0;
            told = false;
        }

        void copyFrom(Law other) {
            length = other.length;
            told = other.told;
            copyRow(other.steps, steps);
        }

        void add(int step) {
            put(steps, length, step);
            length++;
        }

        int gives(Land land, World world, int dead, int heir) {
            if (!told) {
                return land.isParent(dead, heir) ? 1 : 0;
            }
            int top = 0;
            for (int i = 0; i < length; i++) {
                int step = at(steps, i);
                if (step > NOT) {
                    put(stack, top, step >= 0 ? step : valueOf(step, land, world, dead, heir));
                    top++;
                } else if (step == NOT) {
                    put(stack, top - 1, at(stack, top - 1) == 0 ? 1 : 0);
                } else {
                    top--;
                    put(stack, top - 1, joined(step, at(stack, top - 1), at(stack, top)));
                }
            }
            return Math.max(0, Math.min(MOST_GIVEN, at(stack, 0)));
        }

        private static int valueOf(int step, Land land, World world, int dead, int heir) {
            switch (step) {
                case CHILD: return land.isParent(dead, heir) && !land.isAdopted(heir) ? 1 : 0;
                case ADOPTED: return land.isParent(dead, heir) && land.isAdopted(heir) ? 1 : 0;
                case SPOUSE: return world.spouse(dead) == heir ? 1 : 0;
                case PARENT: return land.isParent(heir, dead) ? 1 : 0;
                case SIBLING: return land.areSiblings(dead, heir) ? 1 : 0;
                case NUMBER: return heir;
                default: return world.place(dead) == world.place(heir) ? 1 : 0;
            }
        }

        private static int joined(int step, int a, int b) {
            switch (step) {
                case OR: return a != 0 || b != 0 ? 1 : 0;
                case AND: return a != 0 && b != 0 ? 1 : 0;
                case LESS: return a < b ? 1 : 0;
                case EQUAL: return a == b ? 1 : 0;
                case PLUS: return a + b;
                case MINUS: return a - b;
                case TIMES: return a * b;
                default: return b == 0 ? 0 : a / b;
            }
        }
    }

    /** What acts change, all in one row of cells so that it is kept and taken back at once. */
    private static final class World {
        static final int PLACE_AT = PEOPLE * PARTS;
        static final int SPOUSE_AT = PLACE_AT + PEOPLE;
        static final int GOT_AT = SPOUSE_AT + PEOPLE;
        static final int NOON_AT = GOT_AT + 2 * FIELDS;
        static final int SIZE = NOON_AT + PLACES;

        final int[] cells = new int[SIZE];

        World() {
            fill(cells, PLACE_AT, GOT_AT, NONE);
        }

        void clear() {
            fill(cells, 0, SIZE, 0);
            fill(cells, PLACE_AT, GOT_AT, NONE);
        }

        void copyFrom(World other) {
            copyRow(other.cells, cells);
        }

        void saveTo(int[] rows, int slot) {
            copyCells(cells, 0, rows, slot * SIZE, SIZE);
        }

        void loadFrom(int[] rows, int slot) {
            copyCells(rows, slot * SIZE, cells, 0, SIZE);
        }

        int part(int person, int part) {
            return at(cells, person * PARTS + part);
        }

        void setPart(int person, int part, int much) {
            put(cells, person * PARTS + part, much);
        }

        void addPart(int person, int part, int much) {
            setPart(person, part, part(person, part) + much);
        }

        int place(int person) {
            return at(cells, PLACE_AT + person);
        }

        void setPlace(int person, int place) {
            put(cells, PLACE_AT + person, place);
        }

        /** Only the dead, and those who were never told, are nowhere. */
        boolean alive(int person) {
            return at(cells, PLACE_AT + person) != NONE;
        }

        int manyAlive() {
            int many = 0;
            for (int person = 0; person < PEOPLE; person++) {
                many += alive(person) ? 1 : 0;
            }
            return many;
        }

        int manyThere(int place) {
            int many = 0;
            for (int person = 0; person < PEOPLE; person++) {
                many += place(person) == place ? 1 : 0;
            }
            return many;
        }

        int spouse(int person) {
            return at(cells, SPOUSE_AT + person);
        }

        void setSpouse(int person, int spouse) {
            put(cells, SPOUSE_AT + person, spouse);
        }

        boolean free(int person) {
            int spouse = spouse(person);
            return alive(person) && (spouse == NONE || !alive(spouse));
        }

        void leaveSpouse(int person) {
            int spouse = spouse(person);
            if (spouse != NONE) {
                setSpouse(spouse, NONE);
                setSpouse(person, NONE);
            }
        }

        void join(int one, int other) {
            setSpouse(one, other);
            setSpouse(other, one);
        }

        int noons(int place) {
            return at(cells, NOON_AT + place);
        }

        void addNoon(int place) {
            put(cells, NOON_AT + place, noons(place) + 1);
        }

        int allNoons() {
            int many = 0;
            for (int place = 0; place < PLACES; place++) {
                many += noons(place);
            }
            return many;
        }

        int falls(int place, int part) {
            int much = part == SUN ? NOON_SUN * noons(place) : 0;
            for (int person = 0; person < PEOPLE; person++) {
                if (place(person) == place) {
                    much += part(person, part);
                }
            }
            return much;
        }

        int kind(int place) {
            int greatestOnes = 0;
            for (int person = 0; person < PEOPLE; person++) {
                if (place(person) == place) {
                    greatestOnes |= 1 << greatest(part(person, 0), part(person, 1), part(person, 2), part(person, 3));
                }
            }
            int hail = 1 << RAIN | 1 << COLD;
            if ((greatestOnes & hail) == hail) {
                return HAIL;
            }
            return greatest(falls(place, 0), falls(place, 1), falls(place, 2), falls(place, 3));
        }

        int apart(int one, int other) {
            int apart = 0;
            for (int part = 0; part < PARTS; part++) {
                apart += Math.abs(part(one, part) - part(other, part));
            }
            return apart;
        }

        int got(int field, int part) {
            return at(cells, GOT_AT + field * 2 + part);
        }

        boolean ripe(Land land, int field) {
            return got(field, SUN) >= at(land.wantSun, field) && got(field, RAIN) >= at(land.wantRain, field);
        }

        int manyRipe(Land land) {
            int many = 0;
            for (int field = 0; field < land.fields; field++) {
                many += ripe(land, field) ? 1 : 0;
            }
            return many;
        }

        /** Nobody moves meanwhile, so that each of the days brings the same. */
        void passDays(Land land, int many) {
            for (int field = 0; field < land.fields; field++) {
                for (int part = SUN; part <= RAIN; part++) {
                    int much = got(field, part) + many * falls(at(land.fieldPlace, field), part);
                    put(cells, GOT_AT + field * 2 + part, Math.min(MUCH, much));
                }
            }
        }
    }

    /** All that an image keeps: the world, the acts that can be undone, what is seen, the status. */
    private static final class Story {
        final World world = new World();
        final int[] past = new int[ACTS * World.SIZE];
        int oldest = 0;
        int acts = 0;
        final int[] seenPart = new int[SEEN];
        final int[] seenMuch = new int[SEEN];
        int seen = 0;
        final int[] status = new int[STATUSES];

        void begin(World first) {
            world.copyFrom(first);
            oldest = 0;
            acts = 0;
            seen = 0;
        }

        void copyFrom(Story other) {
            world.copyFrom(other.world);
            copyRow(other.past, past);
            oldest = other.oldest;
            acts = other.acts;
            copyRow(other.seenPart, seenPart);
            copyRow(other.seenMuch, seenMuch);
            seen = other.seen;
            copyRow(other.status, status);
        }

        void refuse(int which) {
            put(status, which, at(status, which) + 1);
        }

        void addSeen(int part, int much) {
            put(seenPart, seen, part);
            put(seenMuch, seen, much);
            seen++;
        }

        /** Called ahead of an act: the world as it is then is what undoing it brings back. */
        void keepAct() {
            world.saveTo(past, (oldest + acts) % ACTS);
            if (acts < ACTS) {
                acts++;
            } else {
                oldest = (oldest + 1) % ACTS;
            }
        }

        boolean takeBackAct() {
            if (acts < 1) {
                return false;
            }
            acts--;
            world.loadFrom(past, (oldest + acts) % ACTS);
            return true;
        }
    }

    /** Who inherits of one, and how much. */
    private static final class Estate {
        final int[] lawful = new int[PEOPLE * PEOPLE];
        final int[] shares = new int[PEOPLE];
        int heirs = 0;
        int total = 0;
        int eldest = NONE;

        /** What the law gives for each hangs on no death of others: it is worked out once, however many may die. */
        void learn(Land land, World world, int dead) {
            for (int heir = 0; heir < PEOPLE; heir++) {
                boolean may = heir != dead && world.alive(heir);
                put(lawful, dead * PEOPLE + heir, may ? land.law.gives(land, world, dead, heir) : 0);
            }
        }

        void settle(Land land, World world, int dead) {
            begin();
            for (int heir = 0; heir < PEOPLE; heir++) {
                addShare(world, heir, land.left(dead, heir));
            }
            if (heirs == 0) {
                settleByLaw(world, dead);
            }
        }

        void settleByLaw(World world, int dead) {
            begin();
            for (int heir = 0; heir < PEOPLE; heir++) {
                addShare(world, heir, heir == dead ? 0 : at(lawful, dead * PEOPLE + heir));
            }
        }

        private void begin() {
            heirs = 0;
            total = 0;
            eldest = NONE;
        }

        private void addShare(World world, int heir, int told) {
            int share = world.alive(heir) ? told : 0;
            put(shares, heir, share);
            if (share > 0) {
                heirs++;
                total += share;
                eldest = eldest == NONE ? heir : eldest;
            }
        }

        int portion(int heir, int much) {
            int portion = cut(heir, much);
            return heir == eldest ? portion + leftOver(much) : portion;
        }

        private int leftOver(int much) {
            int left = much;
            for (int heir = 0; heir < PEOPLE; heir++) {
                left -= cut(heir, much);
            }
            return left;
        }

        private int cut(int heir, int much) {
            return total < 1 ? 0 : much * at(shares, heir) / total;
        }

        int portions(World world, int dead, int heir) {
            int all = 0;
            for (int part = 0; part < PARTS; part++) {
                all += portion(heir, world.part(dead, part));
            }
            return all;
        }

        void handOver(World world, int dead) {
            for (int part = 0; part < PARTS; part++) {
                handOverPart(world, part, world.part(dead, part));
                world.setPart(dead, part, 0);
            }
            if (heirs == 0) {
                world.addNoon(world.place(dead));
            }
            world.setPlace(dead, NONE);
        }

        private void handOverPart(World world, int part, int much) {
            int left = much;
            for (int heir = 0; heir < PEOPLE; heir++) {
                int portion = cut(heir, much);
                left -= portion;
                world.addPart(heir, part, portion);
            }
            if (eldest != NONE) {
                world.addPart(eldest, part, left);
            }
        }
    }

    /** The fewest deaths by which one has so much; an estate that has learnt every row of the law is needed. */
    private static final class DeathSearch {
        final World trial = new World();
        final int[] saved = new int[MOST_DEATHS * World.SIZE];
        final int[] row = new int[MOST_DEATHS];
        final int[] kept = new int[MOST_DEATHS];
        int keptLength = 0;
        private int person = 0;
        private int part = 0;
        private int much = 0;

        void forgetRow() {
            keptLength = 0;
        }

        void aim(int toPerson, int toPart, int toMuch) {
            person = toPerson;
            part = toPart;
            much = toMuch;
        }

        int find(Land land, World start, Estate estate) {
            for (int most = 0; most <= MOST_DEATHS; most++) {
                trial.copyFrom(start);
                if (reaches(land, estate, 0, most)) {
                    copyRow(row, kept);
                    keptLength = most;
                    return most;
                }
            }
            return NONE;
        }

        private boolean reaches(Land land, Estate estate, int depth, int most) {
            if (depth >= most) {
                return trial.part(person, part) >= much;
            }
            trial.saveTo(saved, depth);
            for (int dead = 0; dead < land.people; dead++) {
                if (dead != person && trial.alive(dead)) {
                    estate.settle(land, trial, dead);
                    estate.handOver(trial, dead);
                    put(row, depth, dead);
                    if (reaches(land, estate, depth + 1, most)) {
                        return true;
                    }
                    trial.loadFrom(saved, depth);
                }
            }
            return false;
        }
    }

    /** Where all should be for most fields: every row is tried, the first one first. */
    private static final class Arranging {
        final int[] row = new int[PEOPLE];
        final int[] kept = new int[PEOPLE];
        int arranged = 0;
        private final int[] sun = new int[FIELDS];
        private final int[] rain = new int[FIELDS];
        private int best = NONE;

        void forgetRow() {
            arranged = 0;
        }

        int search(Land land, World world) {
            arranged = 0;
            for (int person = 0; person < land.people; person++) {
                arranged |= world.alive(person) ? 1 << person : 0;
            }
            for (int field = 0; field < land.fields; field++) {
                put(sun, field, NOON_SUN * world.noons(at(land.fieldPlace, field)));
                put(rain, field, 0);
            }
            best = NONE;
            choose(land, world, 0);
            return best;
        }

        private void choose(Land land, World world, int person) {
            if (best >= land.fields) {
                return;
            }
            if (person >= land.people) {
                weigh(land);
                return;
            }
            put(row, person, NONE);
            choose(land, world, person + 1);
            for (int field = 0; field < land.fields && world.alive(person); field++) {
                put(row, person, field);
                add(field, world.part(person, SUN), world.part(person, RAIN));
                choose(land, world, person + 1);
                add(field, -world.part(person, SUN), -world.part(person, RAIN));
            }
        }

        private void add(int field, int moreSun, int moreRain) {
            put(sun, field, at(sun, field) + moreSun);
            put(rain, field, at(rain, field) + moreRain);
        }

        private void weigh(Land land) {
            int many = 0;
            for (int field = 0; field < land.fields; field++) {
                if (at(sun, field) >= at(land.wantSun, field) && at(rain, field) >= at(land.wantRain, field)) {
                    many++;
                }
            }
            if (many > best) {
                best = many;
                copyRow(row, kept);
            }
        }
    }

    /** Orders round a table in which no front sits side by side. */
    private static final class Seating {
        final int[] row = new int[MOST_SEATED];
        final int[] kept = new int[MOST_SEATED];
        int keptLength = 0;
        private int seats = 0;
        private int many = 0;

        void forgetRow() {
            keptLength = 0;
        }

        int search(Land land, World world) {
            seats = world.manyAlive();
            many = 0;
            int eldest = 0;
            while (eldest < PEOPLE - 1 && !world.alive(eldest)) {
                eldest++;
            }
            put(row, 0, eldest);
            fillFrom(land, world, 1, 1 << eldest);
            return many;
        }

        private void fillFrom(Land land, World world, int next, int seated) {
            int last = at(row, next - 1);
            if (next >= seats) {
                if (!isFront(land, world, last, at(row, 0))) {
                    countRow();
                }
                return;
            }
            for (int person = 0; person < land.people; person++) {
                boolean free = world.alive(person) && ((seated >> person) & 1) == 0;
                if (free && !isFront(land, world, last, person)) {
                    put(row, next, person);
                    fillFrom(land, world, next + 1, seated | 1 << person);
                }
            }
        }

        private static boolean isFront(Land land, World world, int one, int other) {
            return world.apart(one, other) >= land.frontFrom;
        }

        private void countRow() {
            if (many == 0) {
                copyRow(row, kept);
                keptLength = seats;
            }
            many++;
        }
    }

    /** Who was there: the sets of those alive whose skies give all that is seen. */
    private static final class Fitting {
        private final int[] missing = new int[SEEN];
        private final int[] inside = new int[PEOPLE];
        int sets = 0;
        int least = NONE;
        int common = 0;

        void search(Story story) {
            sets = 0;
            least = NONE;
            common = (1 << PEOPLE) - 1;
            fill(inside, 0, PEOPLE, 0);
            copyRow(story.seenMuch, missing);
            descend(story, PEOPLE - 1, 0);
        }

        /** From the youngest one down and without ahead of with, so that lesser sets come first. */
        private void descend(Story story, int person, int set) {
            if (person < 0) {
                countSet(story, set);
                return;
            }
            descend(story, person - 1, set);
            if (story.world.alive(person)) {
                if (take(story, person, 1)) {
                    descend(story, person - 1, set | 1 << person);
                }
                take(story, person, -1);
            }
        }

        /** Whether no more is taken than is missing: skies are never below 0, so that more people can't mend it. */
        private boolean take(Story story, int person, int times) {
            boolean enough = true;
            for (int i = 0; i < story.seen; i++) {
                int left = at(missing, i) - times * story.world.part(person, at(story.seenPart, i));
                put(missing, i, left);
                enough = enough && left >= 0;
            }
            return enough;
        }

        private void countSet(Story story, int set) {
            for (int i = 0; i < story.seen; i++) {
                if (at(missing, i) != 0) {
                    return;
                }
            }
            least = sets == 0 ? set : least;
            sets++;
            common &= set;
            for (int person = 0; person < PEOPLE; person++) {
                put(inside, person, at(inside, person) + ((set >> person) & 1));
            }
        }

        int askNext(World world) {
            int best = NONE;
            int bestUneven = 0;
            for (int person = 0; person < PEOPLE; person++) {
                int uneven = Math.abs(2 * at(inside, person) - sets);
                if (world.alive(person) && (best == NONE || uneven < bestUneven)) {
                    best = person;
                    bestUneven = uneven;
                }
            }
            return best;
        }
    }

    /** A text cut into tokens; the kind of a sign is its own byte. */
    private static final class Tokens {
        static final int END = -1;
        static final int NO_TOKEN = -2;
        static final int BLANK = -3;
        static final int NUMBER = 200;
        static final int OTHER_WORD = 300;
        static final int PERSON = 301;
        static final int CHILD = 302;
        static final int ADOPTED = 303;
        static final int WED = 304;
        static final int WILL = 305;
        static final int FIELD = 306;
        static final int FRONT = 307;
        static final int LAW = 308;
        static final int OR = 309;
        static final int AND = 310;
        static final int NOT = 311;
        static final int SPOUSE = 312;
        static final int PARENT = 313;
        static final int SIBLING = 314;
        static final int NUMBER_WORD = 315;
        static final int HERE = 316;
        static final int MOST_DIGITS = 4;

        final int[] kinds = new int[TAPE + 1];
        final int[] places = new int[TAPE + 1];
        final int[] values = new int[TAPE + 1];
        private final int[] lengths = new int[TAPE + 1];
        private int many = 0;

        void cut(int[] text, int length) {
            many = 0;
            int before = BLANK;
            for (int i = 0; i < length; i++) {
                int kind = kindOf(at(text, i));
                boolean longer = kind == before && (kind == OTHER_WORD || kind == NUMBER);
                if (longer) {
                    put(lengths, many - 1, at(lengths, many - 1) + 1);
                } else if (kind != BLANK) {
                    add(kind, i);
                }
                before = kind;
            }
            for (int i = 0; i < many; i++) {
                tell(text, i);
            }
            add(END, length);
        }

        private void add(int kind, int place) {
            put(kinds, many, kind);
            put(places, many, place);
            put(lengths, many, 1);
            put(values, many, 0);
            many++;
        }

        private static int kindOf(int sign) {
            if (sign >= 'a' && sign <= 'z') {
                return OTHER_WORD;
            }
            if (sign >= '0' && sign <= '9') {
                return NUMBER;
            }
            switch (sign) {
                case 32:
                case 10: return BLANK;
                case ';':
                case '(':
                case ')':
                case '+':
                case '-':
                case '*':
                case '/':
                case '<':
                case '=': return sign;
                default: return NO_TOKEN;
            }
        }

        private void tell(int[] text, int i) {
            if (at(kinds, i) == NUMBER) {
                put(values, i, valueAt(text, at(places, i), at(lengths, i)));
            } else if (at(kinds, i) == OTHER_WORD) {
                put(kinds, i, wordAt(text, at(places, i), at(lengths, i)));
            }
        }

        /** A number of too many digits is NONE, which is below whatever is asked. */
        private static int valueAt(int[] text, int place, int length) {
            if (length > MOST_DIGITS) {
                return NONE;
            }
            int value = 0;
            for (int i = 0; i < length; i++) {
                value = value * 10 + at(text, place + i) - '0';
            }
            return value;
        }

        private static int wordAt(int[] text, int place, int length) {
            int line = lineWordAt(text, place, length);
            if (line != OTHER_WORD) {
                return line;
            }
            if (spells(text, place, length, "or")) {
                return OR;
            }
            if (spells(text, place, length, "and")) {
                return AND;
            }
            if (spells(text, place, length, "not")) {
                return NOT;
            }
            if (spells(text, place, length, "spouse")) {
                return SPOUSE;
            }
            if (spells(text, place, length, "parent")) {
                return PARENT;
            }
            if (spells(text, place, length, "sibling")) {
                return SIBLING;
            }
            if (spells(text, place, length, "number")) {
                return NUMBER_WORD;
            }
            return spells(text, place, length, "here") ? HERE : OTHER_WORD;
        }

        private static int lineWordAt(int[] text, int place, int length) {
            if (spells(text, place, length, "person")) {
                return PERSON;
            }
            if (spells(text, place, length, "child")) {
                return CHILD;
            }
            if (spells(text, place, length, "adopted")) {
                return ADOPTED;
            }
            if (spells(text, place, length, "wed")) {
                return WED;
            }
            if (spells(text, place, length, "will")) {
                return WILL;
            }
            if (spells(text, place, length, "field")) {
                return FIELD;
            }
            if (spells(text, place, length, "front")) {
                return FRONT;
            }
            return spells(text, place, length, "law") ? LAW : OTHER_WORD;
        }

        private static boolean spells(int[] text, int place, int length, String word) {
            if (length != word.length()) {
                return false;
            }
            for (int i = 0; i < word.length(); i++) {
                if (at(text, place + i) != word.charAt(i)) {
                    return false;
                }
            }
            return true;
        }
    }

    /** Reads a text into a land and a world of its own; behind the first fault nothing is read on. */
    private static final class Reader {
        static final int MOST_NESTED = 6;
        static final int MOST_NOTS = 6;
        static final int MOST_SKY = 999;
        static final int MOST_SHARE = 99;
        static final int MOST_FRONT = 3996;

        final Land land = new Land();
        final World world = new World();
        int faultPlace = NONE;
        private final Tokens tokens = new Tokens();
        private int fault = 0;
        private int index = 0;
        private int kind = Tokens.END;
        private int value = 0;
        private boolean frontTold = false;

        /** The text's fault, 0 without. */
        int read(int[] text, int length) {
            tokens.cut(text, length);
            land.clear();
            world.clear();
            fault = 0;
            frontTold = false;
            index = -1;
            advance();
            for (int line = 0; line <= TAPE && kind != Tokens.END && fault == 0; line++) {
                readLine();
            }
            faultPlace = fault == 0 ? NONE : at(tokens.places, index);
            return fault;
        }

        private void advance() {
            if (fault == 0) {
                index++;
                kind = at(tokens.kinds, index);
                value = at(tokens.values, index);
            }
        }

        private void refuse(int why) {
            if (fault == 0) {
                fault = why;
            }
        }

        private void take(int wanted) {
            if (kind != wanted) {
                refuse(1);
            }
            advance();
        }

        /** A first token of a line, too many of which are refused as told. */
        private void takeFirst(boolean tooMuch, int why) {
            if (tooMuch) {
                refuse(why);
            }
            advance();
        }

        private int lookNumber(int least, int most) {
            if (fault == 0 && kind != Tokens.NUMBER) {
                refuse(1);
            }
            if (value < least || value > most) {
                refuse(2);
            }
            return value;
        }

        private int takeNumber(int least, int most) {
            int number = lookNumber(least, most);
            advance();
            return number;
        }

        /** Somebody who is told ahead and isn't the first one of the line. */
        private int lookPerson(int first) {
            int person = lookNumber(0, MUCH);
            if (person >= land.people) {
                refuse(3);
            }
            if (person == first) {
                refuse(4);
            }
            return person;
        }

        private int takePerson(int first) {
            int person = lookPerson(first);
            advance();
            return person;
        }

        private void readLine() {
            switch (kind) {
                case Tokens.PERSON: readPerson(0); break;
                case Tokens.ADOPTED: readPerson(1); break;
                case Tokens.CHILD: readPerson(2); break;
                case Tokens.WED: readWed(); break;
                case Tokens.WILL: readWill(); break;
                case Tokens.FIELD: readField(); break;
                case Tokens.FRONT: readFront(); break;
                case Tokens.LAW: readLaw(); break;
                default: refuse(1); break;
            }
            take(';');
        }

        private void readPerson(int parents) {
            takeFirst(land.people >= PEOPLE, 2);
            int first = parents > 0 ? takePerson(NONE) : NONE;
            int second = parents > 1 ? takePerson(first) : NONE;
            int place = takeNumber(0, PLACES - 1);
            int person = land.people;
            for (int part = 0; part < PARTS; part++) {
                world.setPart(person, part, takeNumber(0, MOST_SKY));
            }
            if (fault == 0) {
                world.setPlace(person, place);
                land.addPerson(first, second, parents == 1);
            }
        }

        private void readWed() {
            advance();
            int one = takeSpouse(NONE);
            int other = takeSpouse(one);
            if (fault == 0) {
                world.join(one, other);
            }
        }

        private int takeSpouse(int first) {
            int person = lookPerson(first);
            if (fault == 0 && world.spouse(person) != NONE) {
                refuse(6);
            }
            advance();
            return person;
        }

        private void readWill() {
            takeFirst(land.wills >= WILLS, 2);
            int owner = takePerson(NONE);
            int heir = lookPerson(owner);
            if (fault == 0 && land.left(owner, heir) > 0) {
                refuse(4);
            }
            advance();
            int share = takeNumber(1, MOST_SHARE);
            if (fault == 0) {
                land.addWill(owner, heir, share);
            }
        }

        private void readField() {
            takeFirst(land.fields >= FIELDS, 2);
            int place = lookNumber(0, PLACES - 1);
            if (land.hasFieldAt(place)) {
                refuse(4);
            }
            advance();
            int sun = takeNumber(0, MUCH);
            int rain = takeNumber(0, MUCH);
            if (fault == 0) {
                land.addField(place, sun, rain);
            }
        }

        private void readFront() {
            takeFirst(frontTold, 5);
            int from = takeNumber(1, MOST_FRONT);
            if (fault == 0) {
                land.frontFrom = from;
                frontTold = true;
            }
        }

        private void readLaw() {
            takeFirst(land.law.told, 5);
            readExpr(0);
            land.law.told = true;
        }

        private void readExpr(int within) {
            boolean canStand = kind == Tokens.NUMBER || kind >= Tokens.OTHER_WORD || kind == '(';
            if (within >= MOST_NESTED) {
                refuse(canStand ? 2 : 1);
                return;
            }
            readAnd(within);
            for (int i = 0; i < TAPE && fault == 0 && kind == Tokens.OR; i++) {
                advance();
                readAnd(within);
                land.law.add(Law.OR);
            }
        }

        private void readAnd(int within) {
            readNot(within);
            for (int i = 0; i < TAPE && fault == 0 && kind == Tokens.AND; i++) {
                advance();
                readNot(within);
                land.law.add(Law.AND);
            }
        }

        private void readNot(int within) {
            int nots = 0;
            while (nots < MOST_NOTS && kind == Tokens.NOT) {
                advance();
                nots++;
            }
            if (kind == Tokens.NOT) {
                refuse(2);
            }
            readTest(within);
            for (int i = 0; i < nots; i++) {
                land.law.add(Law.NOT);
            }
        }

        private void readTest(int within) {
            readSum(within);
            int sign = kind;
            if (sign == '<' || sign == '=') {
                advance();
                readSum(within);
                land.law.add(sign == '<' ? Law.LESS : Law.EQUAL);
            }
        }

        private void readSum(int within) {
            readProduct(within);
            for (int i = 0; i < TAPE && fault == 0 && (kind == '+' || kind == '-'); i++) {
                int step = kind == '+' ? Law.PLUS : Law.MINUS;
                advance();
                readProduct(within);
                land.law.add(step);
            }
        }

        private void readProduct(int within) {
            readPart(within);
            for (int i = 0; i < TAPE && fault == 0 && (kind == '*' || kind == '/'); i++) {
                int step = kind == '*' ? Law.TIMES : Law.BY;
                advance();
                readPart(within);
                land.law.add(step);
            }
        }

        private void readPart(int within) {
            if (fault != 0) {
                return;
            }
            if (kind == '(') {
                advance();
                readExpr(within + 1);
                take(')');
            } else if (kind >= Tokens.OTHER_WORD) {
                readValue();
            } else {
                land.law.add(takeNumber(0, MUCH));
            }
        }

        private void readValue() {
            int step = valueStep(kind);
            if (step == 0) {
                refuse(3);
            }
            land.law.add(step);
            advance();
        }

        private static int valueStep(int word) {
            switch (word) {
                case Tokens.CHILD: return Law.CHILD;
                case Tokens.ADOPTED: return Law.ADOPTED;
                case Tokens.SPOUSE: return Law.SPOUSE;
                case Tokens.PARENT: return Law.PARENT;
                case Tokens.SIBLING: return Law.SIBLING;
                case Tokens.NUMBER_WORD: return Law.NUMBER;
                case Tokens.HERE: return Law.HERE;
                default: return 0;
            }
        }
    }
}
