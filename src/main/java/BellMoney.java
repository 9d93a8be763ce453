import java.util.Arrays;

/**
 * Bells that are money: a town told as a text, its bells melted, cast and
 * cracked, its years passed and foretold. README.md shows how it is used.
 */
public final class BellMoney {
    public static final int NONE = -1;

    private static final int NO_SUCH = -2;
    private static final int BELOW_ZERO = -3;
    private static final int FAULTY = -4;
    private static final int REFUSED = -5;
    private static final int EMPTY = -6;
    private static final int OUTSIDE = -7;
    private static final int OTHER_WIDTH = -8;
    private static final long NO_REST = -4_000_000_000_000_000_000L;

    private static final int MOST_BYTES = 1400;
    private static final int MOST_TOWERS = 4;
    private static final int ALL_TOWERS = (1 << MOST_TOWERS) - 1;
    private static final int MOST_TOLD = 8;
    private static final int MOST_BELLS = 10;
    private static final int MOST_SETS = 1 << MOST_BELLS;
    private static final int MOST_WARDS = 4;
    private static final int MOST_DUES = 12;
    private static final int MOST_ACTS = 40;
    private static final int MOST_NUMBERS = 60;
    private static final int MOST_SEEDS = 20;
    private static final int SLOTS = 4;
    private static final int IMAGES = 3;
    private static final int NOTES = 12;
    private static final int YEARS = 20;
    private static final int MOST_OUNCES = 10_000;
    private static final int MOST_TIN = 40;
    private static final int MOST_TRUST = 9;
    private static final int MOST_TAX = 100_000;
    private static final int MOST_MUCH = 1_000_000;
    private static final int MOST_SEED = 2_000_000_000;

    private final Tape tape = new Tape();
    private final World[] images = new World[IMAGES];
    private final Row[] rows = new Row[SLOTS];
    private final Forecast forecast = new Forecast();
    private final Choice choice = new Choice(forecast);
    private World world = new World();
    private World spare = new World();
    private final Reader reader = new Reader(tape, spare.town);

    public BellMoney() {
        for (int k = 0; k < images.length; k++) {
            images[k] = new World();
        }
        for (int slot = 0; slot < rows.length; slot++) {
            rows[slot] = new Row();
        }
    }

    // ---- the tape and the town ----

    public int feed(int a, int b, int c, int d, int e) {
        if (tape.size + 20 > MOST_BYTES) {
            return NONE;
        }
        tape.put(a);
        tape.put(b);
        tape.put(c);
        tape.put(d);
        tape.put(e);
        return tape.size;
    }

    public int end(int n) {
        if (n < 0 || n > tape.size) {
            return NONE;
        }
        tape.size = n;
        return n;
    }

    public int town() {
        reader.begin(spare.town);
        for (int i = 0; i < MOST_BYTES && reader.hasMore(); i++) {
            reader.readLine();
        }
        if (reader.fault != 0) {
            return FAULTY;
        }
        World before = world;
        world = spare;
        spare = before;
        world.begin();
        tape.size = 0;
        return world.town.lines;
    }

    public int fault(int what) {
        if (what == 0) {
            return reader.fault;
        }
        return what == 1 ? reader.faultPlace : NONE;
    }

    // ---- what is told, and how it is now ----

    public int bell(int bell, int what) {
        if (!isBell(bell)) {
            return NO_SUCH;
        }
        switch (what) {
            case 0:
                return world.town.bells.ounces[bell];
            case 1:
                return world.town.bells.tin[bell];
            case 2:
                return world.town.bells.note[bell];
            case 3:
                return world.town.bells.tower[bell];
            case 4:
                return world.state.hang >> bell & 1;
            case 5:
                return world.state.cracked >> bell & 1;
            default:
                return NO_SUCH;
        }
    }

    public int tower(int tower, int what) {
        if (!isTower(tower)) {
            return NO_SUCH;
        }
        int there = world.town.bells.inTowers(1 << tower, world.state.hang);
        switch (what) {
            case 0:
                return world.town.holds[tower];
            case 1:
                return world.town.bells.weight(there);
            case 2:
                return there;
            default:
                return NO_SUCH;
        }
    }

    public int ward(int ward, int what) {
        if (ward < 0 || ward >= world.town.wards || ward >= MOST_WARDS) {
            return NO_SUCH;
        }
        int ringing = world.state.ringing();
        switch (what) {
            case 0:
                return world.town.listens[ward];
            case 1:
                return world.town.bells.notesIn(world.town.listens[ward], ringing);
            case 2:
                return Integer.bitCount(world.town.peal
                        & ~world.town.bells.notesIn(world.town.listens[ward], ringing));
            default:
                return NO_SUCH;
        }
    }

    public int due(int due, int what) {
        if (!isDue(due)) {
            return NO_SUCH;
        }
        if (what == 0) {
            return world.town.dueYear[due];
        }
        return what == 1 ? world.town.dueMuch[due] : NO_SUCH;
    }

    public int coins(int bell) {
        return isBell(bell) ? world.town.coinsOf(bell) : NO_SUCH;
    }

    public int over(int bell) {
        return isBell(bell) ? world.town.overOf(bell) : NO_SUCH;
    }

    public int why(int bell) {
        return isBell(bell) ? world.town.law.whyNot(world.state.hang, bell) : NO_SUCH;
    }

    public int may() {
        if (noTown()) {
            return NO_SUCH;
        }
        int free = 0;
        for (int bell = 0; bell < world.state.bells; bell++) {
            if (world.town.law.whyNot(world.state.hang, bell) == 0) {
                free |= 1 << bell;
            }
        }
        return free;
    }

    public long now(int what) {
        if (noTown()) {
            return NO_SUCH;
        }
        State state = world.state;
        switch (what) {
            case 0:
                return state.year;
            case 1:
                return state.purse;
            case 2:
                return state.heap;
            case 3:
                return state.trust;
            case 4:
                return state.debt;
            case 5:
                return state.hang;
            case 6:
                return world.town.wardsMissing(state.ringing());
            default:
                return NO_SUCH;
        }
    }

    public int price(int n, int trust) {
        if (n < 0 || n > MOST_MUCH || trust < 0 || trust > MOST_TRUST) {
            return NO_SUCH;
        }
        return (int) State.priceAt(n, trust);
    }

    public long asked() {
        return noTown() ? NO_SUCH : world.state.toBePaid(world.town);
    }

    // ---- acts ----

    public int melt(int bell) {
        if (!isBell(bell)) {
            return NO_SUCH;
        }
        if (world.town.law.whyNot(world.state.hang, bell) != 0 || !world.beginAct()) {
            return REFUSED;
        }
        world.state.takeDown(world.town, 1 << bell);
        return world.town.coinsOf(bell);
    }

    public int cast(int ounces, int tin, int note, int tower) {
        if (ounces < 1 || ounces > MOST_OUNCES || tin < 0 || tin > MOST_TIN
                || !isNote(note) || !isTower(tower)) {
            return NO_SUCH;
        }
        int needed = world.state.coinsNeeded(world.town, ounces);
        int there = world.town.bells.inTowers(1 << tower, world.state.hang);
        boolean fits = world.town.bells.weight(there) + ounces <= world.town.holds[tower];
        if (needed > world.state.purse || !fits || world.state.bells >= MOST_BELLS || !world.beginAct()) {
            return REFUSED;
        }
        int bell = world.state.bells;
        world.town.bells.put(bell, ounces, tin, note, tower);
        world.state.hangUp(bell, ounces, needed, world.town.coin);
        return bell;
    }

    public int passes() {
        if (noTown()) {
            return NO_SUCH;
        }
        if (world.state.year >= YEARS || !world.beginAct()) {
            return REFUSED;
        }
        world.state.passYear(world.town, world.town.wardsMissing(world.state.ringing()));
        return world.state.year;
    }

    public int cracks(int bell) {
        if (!isBell(bell)) {
            return NO_SUCH;
        }
        boolean rings = (world.state.ringing() >> bell & 1) == 1;
        if (!rings || !world.beginAct()) {
            return REFUSED;
        }
        world.state.cracked |= 1 << bell;
        return 0;
    }

    public int undo() {
        if (noTown()) {
            return NO_SUCH;
        }
        return world.goBackTo(world.acts - 1) ? world.acts : REFUSED;
    }

    public int anew() {
        if (noTown()) {
            return NO_SUCH;
        }
        int before = world.acts;
        world.goBackTo(0);
        return before;
    }

    // ---- plans, and sets of bells melted now ----

    public long plan(int slot, int what) {
        if (!isSlot(slot) || what < 0 || what > 5 || noTown()) {
            return NO_SUCH;
        }
        Row row = rows[slot];
        if (!row.full) {
            return EMPTY;
        }
        if (!row.isPlan(world.state.bells)) {
            return NO_SUCH;
        }
        forecast.runPlan(world, row);
        switch (what) {
            case 0:
                return forecast.state.purse;
            case 1:
                return forecast.state.trust;
            case 2:
                return forecast.state.debt;
            case 3:
                return forecast.firstMissed;
            case 4:
                return forecast.notMelted;
            default:
                return forecast.firstUnpaid;
        }
    }

    public int enough() {
        int set = noTown() ? NO_SUCH : choice.cheapest(world, false);
        return set < 0 ? set : Integer.bitCount(set);
    }

    public int melted() {
        return noTown() ? NO_SUCH : choice.cheapest(world, false);
    }

    public int ounces() {
        int set = noTown() ? NO_SUCH : choice.cheapest(world, true);
        return set < 0 ? set : world.town.bells.weight(set);
    }

    public int lightest() {
        return noTown() ? NO_SUCH : choice.cheapest(world, true);
    }

    public int loud() {
        if (noTown()) {
            return NO_SUCH;
        }
        forecast.runWithout(world, choice.loudest(world), true);
        return forecast.state.trust;
    }

    public int loudly() {
        return noTown() ? NO_SUCH : choice.loudest(world);
    }

    public int lawful(int set) {
        if (noTown() || !isSet(set)) {
            return NO_SUCH;
        }
        choice.markLawful(world);
        return choice.isLawful(set) ? 1 : 0;
    }

    // ---- silence ----

    public int silent() {
        int set = noTown() ? NO_SUCH : world.town.breakingSet(world.state.ringing());
        return set < 0 ? set : Integer.bitCount(set);
    }

    public int silence() {
        return noTown() ? NO_SUCH : world.town.breakingSet(world.state.ringing());
    }

    public int guarded() {
        return noTown() ? NO_SUCH : world.town.soleRingers(world.state.ringing());
    }

    // ---- alloys, towers, sums ----

    public int alloy(int set, int what) {
        if (noTown() || !isSet(set) || set == 0 || what < 0 || what > 1) {
            return NO_SUCH;
        }
        int above = world.town.bells.tinWeight(set);
        int below = world.town.bells.weight(set);
        int shared = commonDivisor(above, below);
        if (shared == 0) {
            return NO_SUCH;
        }
        return (what == 0 ? above : below) / shared;
    }

    public int casts(int ounces, int from, int to) {
        int set = isCast(ounces, from, to) ? choice.lightestFor(world, ounces, from, to) : NO_SUCH;
        return set < 0 ? set : world.town.bells.weight(set);
    }

    public int castOf(int ounces, int from, int to) {
        return isCast(ounces, from, to) ? choice.lightestFor(world, ounces, from, to) : NO_SUCH;
    }

    public int tested(int tin, int coins) {
        if (!isTest(tin, coins)) {
            return NO_SUCH;
        }
        choice.testSets(world, tin, coins);
        return choice.testedSets;
    }

    public int sure(int tin, int coins, int what) {
        if (!isTest(tin, coins) || what < 0 || what > 1) {
            return NO_SUCH;
        }
        choice.testSets(world, tin, coins);
        return what == 0 ? choice.testedInAll : choice.testedInSome;
    }

    public int few(int tin, int coins) {
        if (!isTest(tin, coins)) {
            return NO_SUCH;
        }
        choice.testSets(world, tin, coins);
        return choice.testedFewest;
    }

    public int hold() {
        int towers = noTown() ? NO_SUCH : choice.fewestTowers(world);
        return towers < 0 ? towers : Integer.bitCount(towers);
    }

    public int held() {
        return noTown() ? NO_SUCH : choice.fewestTowers(world);
    }

    public int fills(int tower) {
        int set = isTower(tower) ? choice.fullest(world, world.town.holds[tower]) : NO_SUCH;
        return set < 0 ? set : world.town.bells.weight(set);
    }

    public int filled(int tower) {
        return isTower(tower) ? choice.fullest(world, world.town.holds[tower]) : NO_SUCH;
    }

    public int pays(int n) {
        int set = isSum(n) ? choice.nearestSum(world, n) : NO_SUCH;
        return set < 0 ? set : world.town.coinsOfSet(set);
    }

    public int paid(int n) {
        int set = isSum(n) ? choice.nearestSum(world, n) : NO_SUCH;
        return set < 0 ? set : Integer.bitCount(set);
    }

    // ---- years to come, nothing done ----

    public int sundays() {
        if (noTown()) {
            return NO_SUCH;
        }
        forecast.runOn(world);
        return forecast.fullYears;
    }

    public int broke() {
        if (noTown()) {
            return NO_SUCH;
        }
        forecast.runOn(world);
        return forecast.firstUnpaid;
    }

    public int hears(int bell) {
        if (!isBell(bell)) {
            return NO_SUCH;
        }
        boolean rings = (world.state.ringing() >> bell & 1) == 1;
        return rings ? world.town.wardsOf(world.town.bells.tower[bell]) : 0;
    }

    public int clear() {
        if (noTown()) {
            return NO_SUCH;
        }
        forecast.runOn(world);
        return forecast.firstClear(world.state.year);
    }

    public long rest(int year) {
        if (!isComing(year)) {
            return NO_REST;
        }
        forecast.runOn(world);
        return forecast.purseBehind[year] - forecast.debtBehind[year];
    }

    public int trust(int year) {
        if (!isComing(year)) {
            return NO_SUCH;
        }
        forecast.runOn(world);
        return forecast.trustBehind[year];
    }

    // ---- notes and changes ----

    public int rings() {
        return noTown() ? NO_SUCH : world.town.bells.notesIn(ALL_TOWERS, world.state.ringing());
    }

    public int note(int note) {
        return noTown() || !isNote(note) ? NO_SUCH : world.town.bells.ofNote(note, world.state.hang);
    }

    public int changes() {
        return noTown() ? NO_SUCH : choice.rowsRung(world.town.bells.notesIn(ALL_TOWERS, world.state.ringing()));
    }

    // ---- frost ----

    public int drawn(int seed, int what) {
        if (noTown() || !isSeed(seed) || what < 0 || what > 2) {
            return NO_SUCH;
        }
        forecast.runFrost(world, seed);
        if (what == 0) {
            return forecast.state.cracked;
        }
        return what == 1 ? forecast.state.trust : forecast.firstMissed;
    }

    public int winters(int seed, int n) {
        if (noTown() || !isSeed(seed) || n < 1 || n > MOST_SEEDS) {
            return NO_SUCH;
        }
        int good = 0;
        for (int i = 0; i < n; i++) {
            forecast.runFrost(world, seed + i);
            if (forecast.state.debt == 0) {
                good++;
            }
        }
        return good;
    }

    // ---- what may be set, counted, kept ----

    public int raise(int due, int n) {
        if (!isDue(due) || n < 1 || n > MOST_MUCH) {
            return NO_SUCH;
        }
        if (world.acts > 0) {
            return REFUSED;
        }
        int before = world.town.dueMuch[due];
        world.town.dueMuch[due] = n;
        return before;
    }

    public int tax(int n) {
        if (noTown() || n < 0 || n > MOST_TAX) {
            return NO_SUCH;
        }
        if (world.acts > 0) {
            return REFUSED;
        }
        int before = world.town.tax;
        world.town.tax = n;
        return before;
    }

    public int count(int what) {
        switch (what) {
            case 0:
                return world.state.bells;
            case 1:
                return world.town.towers;
            case 2:
                return world.town.wards;
            case 3:
                return world.town.dues;
            case 4:
                return world.town.coin;
            case 5:
                return world.town.tax;
            case 6:
                return world.town.frost;
            case 7:
                return Integer.bitCount(world.town.peal);
            case 8:
                return world.acts;
            case 9:
                return world.town.lines;
            case 10:
                return tape.size;
            case 11:
                return fullSlots();
            default:
                return NONE;
        }
    }

    public int image(int k) {
        if (k < 0 || k >= images.length) {
            return NO_SUCH;
        }
        images[k].copy(world);
        images[k].kept = true;
        return 0;
    }

    public int back(int k) {
        if (k < 0 || k >= images.length) {
            return NO_SUCH;
        }
        if (!images[k].kept) {
            return EMPTY;
        }
        world.copy(images[k]);
        return 0;
    }

    // ---- slots ----

    public int row(int slot, int width, int n) {
        if (!isSlot(slot) || width < 0 || width > 3 || n > MOST_NUMBERS) {
            return NO_SUCH;
        }
        if (n < 0) {
            return BELOW_ZERO;
        }
        rows[slot].begin(width, n);
        return 0;
    }

    public int write(int slot, int i, long v) {
        if (!isSlot(slot)) {
            return NO_SUCH;
        }
        Row row = rows[slot];
        if (!row.full) {
            return EMPTY;
        }
        if (i < 0 || i >= row.size) {
            return OUTSIDE;
        }
        row.put(i, v);
        return 0;
    }

    public int paste(int slot, int i, int to, int k, int n) {
        if (!isSlot(slot) || !isSlot(to)) {
            return NO_SUCH;
        }
        Row source = rows[slot];
        Row target = rows[to];
        if (!source.full || !target.full) {
            return EMPTY;
        }
        if (source.width != target.width) {
            return OTHER_WIDTH;
        }
        if (!source.reaches(i, n) || !target.reaches(k, n)) {
            return OUTSIDE;
        }
        System.arraycopy(source.numbers, i, target.numbers, k, n);
        return 0;
    }

    // ---- which arguments there are ----

    private boolean noTown() {
        return world.town.lines == 0;
    }

    private boolean isBell(int bell) {
        return bell >= 0 && bell < world.state.bells && bell < MOST_BELLS;
    }

    private boolean isSet(int set) {
        return set >= 0 && set < 1 << world.state.bells;
    }

    private boolean isTower(int tower) {
        return tower >= 0 && tower < world.town.towers && tower < MOST_TOWERS;
    }

    private boolean isDue(int due) {
        return due >= 0 && due < world.town.dues && due < MOST_DUES;
    }

    private boolean isComing(int year) {
        return !noTown() && year >= world.state.year && year >= 0 && year < YEARS;
    }

    private boolean isCast(int ounces, int from, int to) {
        return !noTown() && ounces >= 1 && ounces <= MOST_OUNCES && from >= 0 && to <= MOST_TIN && from <= to;
    }

    private boolean isTest(int tin, int coins) {
        return !noTown() && tin >= 0 && tin <= MOST_TIN && coins >= NONE;
    }

    private boolean isSum(int n) {
        return !noTown() && n >= 0 && n <= MOST_MUCH;
    }

    private static boolean isNote(int note) {
        return note >= 0 && note < NOTES;
    }

    private static boolean isSeed(int seed) {
        return seed >= 0 && seed <= MOST_SEED;
    }

    private static boolean isSlot(int slot) {
        return slot >= 0 && slot < SLOTS;
    }

    private int fullSlots() {
        int full = 0;
        for (int slot = 0; slot < rows.length; slot++) {
            if (rows[slot].full) {
                full++;
            }
        }
        return full;
    }

    private static int commonDivisor(int a, int b) {
        int larger = a;
        int smaller = b;
        // Euclid's way takes fewer than fifty steps for any two ints
        for (int i = 0; i < 64 && smaller != 0; i++) {
            int left = larger % smaller;
            larger = smaller;
            smaller = left;
        }
        return larger;
    }

    /** The bytes that were fed. */
    private static final class Tape {
        final byte[] bytes = new byte[MOST_BYTES];
        int size = 0;

        void put(int four) {
            for (int shift = 24; shift >= 0; shift -= 8) {
                if (size < bytes.length) {
                    bytes[size] = (byte) (four >> shift);
                    size++;
                }
            }
        }
    }

    /** Reads a tape into a town, as far as its first fault. */
    private static final class Reader {
        private static final int AT_END = 0;
        private static final int WORD = 1;
        private static final int NUMBER = 2;
        private static final int SIGN = 3;
        private static final int STRANGE = 4;
        // above every bound: no digit behind it can make it right again
        private static final int TOO_MUCH = 100_000_000;

        final Tape tape;
        private Town into;
        private int at = 0;
        private int kind = AT_END;
        private int place = 0;
        private int value = 0;
        private int placeBefore = 0;
        int fault = 0;
        int faultPlace = NONE;

        Reader(Tape tape, Town into) {
            this.tape = tape;
            this.into = into;
        }

        void begin(Town town) {
            into = town;
            town.wipe();
            fault = 0;
            faultPlace = NONE;
            at = 0;
            advance();
        }

        boolean hasMore() {
            return kind != AT_END && fault == 0;
        }

        void readLine() {
            if (kind != WORD) {
                fail(1, place);
            } else if (into.lines == 0) {
                readHead();
            } else if (isWord("tower")) {
                readTower();
            } else if (isWord("bell")) {
                readBell();
            } else if (isWord("ward")) {
                readWard();
            } else if (isWord("peal")) {
                advance();
                into.peal = bitsBelow(NOTES);
            } else if (isWord("due")) {
                readDue();
            } else if (isWord("keeps")) {
                readKeeps();
            } else if (isWord("least")) {
                advance();
                into.law.least = number(0, 10);
            } else if (isWord("after")) {
                readAfter();
            } else {
                fail(1, place);
            }
            if (fault == 0 && kind != SIGN) {
                fail(1, place);
            }
            if (fault == 0) {
                advance();
                into.lines++;
            }
        }

        private void readHead() {
            behind("town");
            into.coin = behind("coin").number(1, 100);
            into.purse = behind("purse").number(0, 100_000);
            into.tax = behind("tax").number(0, MOST_TAX);
            into.trust = behind("trust").number(0, MOST_TRUST);
            into.frost = behind("frost").number(0, 100);
        }

        private void readTower() {
            if (into.towers >= MOST_TOWERS) {
                fail(3, place);
                return;
            }
            advance();
            into.holds[into.towers] = behind("holds").number(1, 100_000);
            into.towers++;
        }

        private void readBell() {
            int bell = into.told;
            if (bell >= MOST_TOLD) {
                fail(3, place);
                return;
            }
            advance();
            int ounces = number(1, MOST_OUNCES);
            int tin = behind("tin").number(0, MOST_TIN);
            int note = behind("note").number(0, NOTES - 1);
            int tower = behind("in").number(0, into.towers - 1);
            if (fault != 0 || tower < 0 || tower >= MOST_TOWERS) {
                return;
            }
            int there = into.bells.inTowers(1 << tower, (1 << bell) - 1);
            if (into.bells.weight(there) + ounces > into.holds[tower]) {
                fail(2, placeBefore);
                return;
            }
            into.bells.put(bell, ounces, tin, note, tower);
            into.told++;
            if (isWord("cracked")) {
                into.cracked |= 1 << bell;
                advance();
            }
        }

        private void readWard() {
            if (into.wards >= MOST_WARDS) {
                fail(3, place);
                return;
            }
            advance();
            into.listens[into.wards] = bitsBelow(into.towers);
            into.wards++;
        }

        private void readDue() {
            if (into.dues >= MOST_DUES) {
                fail(3, place);
                return;
            }
            advance();
            int much = number(1, MOST_MUCH);
            int year = behind("in").number(0, YEARS - 1);
            if (fault == 0 && year >= 0 && year < YEARS) {
                into.dueMuch[into.dues] = much;
                into.dueYear[into.dues] = year;
                into.duesIn[year] |= 1 << into.dues;
                into.dues++;
            }
        }

        private void readKeeps() {
            advance();
            int bell = number(0, into.told - 1);
            if (fault == 0) {
                into.law.kept |= 1 << bell;
            }
        }

        private void readAfter() {
            advance();
            int first = number(0, into.told - 1);
            int second = number(0, into.told - 1);
            if (fault != 0 || first < 0 || first >= MOST_BELLS) {
                return;
            }
            if (first == second) {
                fail(2, placeBefore);
                return;
            }
            into.law.behind[first] = second;
        }

        /** One number and all that follow it, each below a bound, as bits. */
        private int bitsBelow(int bound) {
            int bits = 0;
            for (int i = 0; i < MOST_BYTES && fault == 0 && (i == 0 || kind == NUMBER); i++) {
                int bit = number(0, bound - 1);
                if (fault == 0) {
                    bits |= 1 << bit;
                }
            }
            return bits;
        }

        /** Goes on behind a word, which must stand here. */
        private Reader behind(String word) {
            if (fault == 0) {
                if (isWord(word)) {
                    advance();
                } else {
                    fail(1, place);
                }
            }
            return this;
        }

        /** The number that stands here; NONE behind a fault, or if it is one. */
        private int number(int low, int high) {
            if (fault != 0) {
                return NONE;
            }
            if (kind != NUMBER) {
                fail(1, place);
                return NONE;
            }
            if (value < low || value > high) {
                fail(2, place);
                return NONE;
            }
            int told = value;
            advance();
            return told;
        }

        private void fail(int code, int where) {
            if (fault == 0) {
                fault = code;
                faultPlace = where;
            }
        }

        private boolean isWord(String word) {
            if (kind != WORD || at - place != word.length()) {
                return false;
            }
            for (int i = 0; i < word.length(); i++) {
                if (tape.bytes[place + i] != word.charAt(i)) {
                    return false;
                }
            }
            return true;
        }

        private void advance() {
            placeBefore = place;
            while (at < tape.size && (tape.bytes[at] == 32 || tape.bytes[at] == 10)) {
                at++;
            }
            place = at;
            kind = kindHere();
            if (kind == WORD) {
                while (at < tape.size && tape.bytes[at] >= 'a' && tape.bytes[at] <= 'z') {
                    at++;
                }
            } else if (kind == NUMBER) {
                value = 0;
                while (at < tape.size && tape.bytes[at] >= '0' && tape.bytes[at] <= '9') {
                    value = value < TOO_MUCH ? value * 10 + tape.bytes[at] - '0' : value;
                    at++;
                }
            } else if (kind != AT_END) {
                at++;
            }
        }

        private int kindHere() {
            if (at >= tape.size) {
                return AT_END;
            }
            int sign = tape.bytes[at];
            if (sign >= 'a' && sign <= 'z') {
                return WORD;
            }
            if (sign >= '0' && sign <= '9') {
                return NUMBER;
            }
            return sign == ';' ? SIGN : STRANGE;
        }
    }

    /** What bells are made of, and where they were hung; told ones first. */
    private static final class Bells {
        final int[] ounces = new int[MOST_BELLS];
        final int[] tin = new int[MOST_BELLS];
        final int[] note = new int[MOST_BELLS];
        final int[] tower = new int[MOST_BELLS];

        void put(int bell, int itsOunces, int itsTin, int itsNote, int itsTower) {
            if (bell < 0 || bell >= MOST_BELLS) {
                return;
            }
            ounces[bell] = itsOunces;
            tin[bell] = itsTin;
            note[bell] = itsNote;
            tower[bell] = itsTower;
        }

        void copy(Bells other) {
            for (int bell = 0; bell < MOST_BELLS; bell++) {
                put(bell, other.ounces[bell], other.tin[bell], other.note[bell], other.tower[bell]);
            }
        }

        int weight(int set) {
            int sum = 0;
            for (int bell = 0; bell < MOST_BELLS; bell++) {
                sum += (set >> bell & 1) * ounces[bell];
            }
            return sum;
        }

        int tinWeight(int set) {
            int sum = 0;
            for (int bell = 0; bell < MOST_BELLS; bell++) {
                sum += (set >> bell & 1) * ounces[bell] * tin[bell];
            }
            return sum;
        }

        /** What is left of each when it is melted for itself, together. */
        int leftWeight(int set) {
            int sum = 0;
            for (int bell = 0; bell < MOST_BELLS; bell++) {
                sum += (set >> bell & 1) * left(bell);
            }
            return sum;
        }

        int left(int bell) {
            return bell < 0 || bell >= MOST_BELLS ? 0 : ounces[bell] - ounces[bell] / 50;
        }

        int inTowers(int towers, int among) {
            int found = 0;
            for (int bell = 0; bell < MOST_BELLS; bell++) {
                if ((among >> bell & 1) == 1 && (towers >> tower[bell] & 1) == 1) {
                    found |= 1 << bell;
                }
            }
            return found;
        }

        int ofNote(int wanted, int among) {
            int found = 0;
            for (int bell = 0; bell < MOST_BELLS; bell++) {
                if ((among >> bell & 1) == 1 && note[bell] == wanted) {
                    found |= 1 << bell;
                }
            }
            return found;
        }

        int notesIn(int towers, int among) {
            int notes = 0;
            for (int bell = 0; bell < MOST_BELLS; bell++) {
                if ((among >> bell & 1) == 1 && (towers >> tower[bell] & 1) == 1) {
                    notes |= 1 << note[bell];
                }
            }
            return notes;
        }
    }

    /** Which bells may not be melted. */
    private static final class Law {
        int kept = 0;
        int least = 0;
        final int[] behind = new int[MOST_BELLS];

        void wipe() {
            kept = 0;
            least = 0;
            Arrays.fill(behind, NONE);
        }

        void copy(Law other) {
            kept = other.kept;
            least = other.least;
            System.arraycopy(other.behind, 0, behind, 0, MOST_BELLS);
        }

        int whyNot(int hang, int bell) {
            if (bell < 0 || bell >= MOST_BELLS || (hang >> bell & 1) == 0) {
                return 1;
            }
            if ((kept >> bell & 1) == 1) {
                return 2;
            }
            if (Integer.bitCount(hang) <= least) {
                return 3;
            }
            return behind[bell] != NONE && (hang >> behind[bell] & 1) == 1 ? 4 : 0;
        }
    }

    /** All that a text tells of a town. */
    private static final class Town {
        int lines = 0;
        int coin = 0;
        int purse = 0;
        int tax = 0;
        int trust = 0;
        int frost = 0;
        int towers = 0;
        final int[] holds = new int[MOST_TOWERS];
        int told = 0;
        int cracked = 0;
        final Bells bells = new Bells();
        int wards = 0;
        final int[] listens = new int[MOST_WARDS];
        int peal = 0;
        int dues = 0;
        final int[] dueYear = new int[MOST_DUES];
        final int[] dueMuch = new int[MOST_DUES];
        // by years, as bits: most years have none, and years are run over and over
        final int[] duesIn = new int[YEARS];
        final Law law = new Law();

        void wipe() {
            lines = 0;
            coin = 0;
            purse = 0;
            tax = 0;
            trust = 0;
            frost = 0;
            towers = 0;
            told = 0;
            cracked = 0;
            wards = 0;
            peal = 0;
            dues = 0;
            Arrays.fill(duesIn, 0);
            law.wipe();
        }

        void copy(Town other) {
            lines = other.lines;
            coin = other.coin;
            purse = other.purse;
            tax = other.tax;
            trust = other.trust;
            frost = other.frost;
            towers = other.towers;
            told = other.told;
            cracked = other.cracked;
            wards = other.wards;
            peal = other.peal;
            dues = other.dues;
            law.copy(other.law);
            bells.copy(other.bells);
            System.arraycopy(other.holds, 0, holds, 0, MOST_TOWERS);
            System.arraycopy(other.listens, 0, listens, 0, MOST_WARDS);
            System.arraycopy(other.dueYear, 0, dueYear, 0, MOST_DUES);
            System.arraycopy(other.dueMuch, 0, dueMuch, 0, MOST_DUES);
            System.arraycopy(other.duesIn, 0, duesIn, 0, YEARS);
        }

        int roomIn(int set) {
            int sum = 0;
            for (int tower = 0; tower < MOST_TOWERS; tower++) {
                sum += (set >> tower & 1) * holds[tower];
            }
            return sum;
        }

        int duesOf(int year) {
            return year < 0 || year >= YEARS ? 0 : duesIn[year];
        }

        int coinsOf(int bell) {
            return coin <= 0 ? 0 : bells.left(bell) / coin;
        }

        int overOf(int bell) {
            return coin <= 0 ? 0 : bells.left(bell) % coin;
        }

        int coinsOfSet(int set) {
            int sum = 0;
            for (int bell = 0; bell < MOST_BELLS; bell++) {
                if ((set >> bell & 1) == 1 && coin > 0) {
                    sum += bells.left(bell) / coin;
                }
            }
            return sum;
        }

        int overOfSet(int set) {
            int sum = 0;
            for (int bell = 0; bell < MOST_BELLS; bell++) {
                if ((set >> bell & 1) == 1 && coin > 0) {
                    sum += bells.left(bell) % coin;
                }
            }
            return sum;
        }

        int wardsMissing(int ringing) {
            int missing = 0;
            for (int ward = 0; ward < wards && ward < MOST_WARDS; ward++) {
                if ((peal & ~bells.notesIn(listens[ward], ringing)) != 0) {
                    missing |= 1 << ward;
                }
            }
            return missing;
        }

        int wardsOf(int tower) {
            int found = 0;
            for (int ward = 0; ward < wards && ward < MOST_WARDS; ward++) {
                if ((listens[ward] >> tower & 1) == 1) {
                    found |= 1 << ward;
                }
            }
            return found;
        }

        /** The bells by which a ward hears a note of the peal. */
        private int ringersOf(int ward, int note, int ringing) {
            if (ward < 0 || ward >= MOST_WARDS || (peal >> note & 1) == 0) {
                return 0;
            }
            return bells.ofNote(note, bells.inTowers(listens[ward], ringing));
        }

        int breakingSet(int ringing) {
            if (wardsMissing(ringing) != 0) {
                return NONE;
            }
            int best = NONE;
            for (int ward = 0; ward < wards; ward++) {
                for (int note = 0; note < NOTES; note++) {
                    int set = ringersOf(ward, note, ringing);
                    if (set != 0 && (best == NONE || Choice.isFewer(set, best))) {
                        best = set;
                    }
                }
            }
            return best;
        }

        int soleRingers(int ringing) {
            int sole = 0;
            for (int ward = 0; ward < wards; ward++) {
                for (int note = 0; note < NOTES; note++) {
                    int set = ringersOf(ward, note, ringing);
                    if (Integer.bitCount(set) == 1) {
                        sole |= set;
                    }
                }
            }
            return sole;
        }
    }

    /** What acts and years change of a town. */
    private static final class State {
        int year = 0;
        int bells = 0;
        int hang = 0;
        int cracked = 0;
        int trust = 0;
        long purse = 0;
        long heap = 0;
        long debt = 0;

        void begin(Town town) {
            year = 0;
            bells = town.told;
            hang = (1 << town.told) - 1;
            cracked = town.cracked;
            trust = town.trust;
            purse = town.purse;
            heap = 0;
            debt = 0;
        }

        void copy(State other) {
            year = other.year;
            bells = other.bells;
            hang = other.hang;
            cracked = other.cracked;
            trust = other.trust;
            purse = other.purse;
            heap = other.heap;
            debt = other.debt;
        }

        int ringing() {
            return hang & ~cracked;
        }

        void takeDown(Town town, int set) {
            hang &= ~set;
            purse += town.coinsOfSet(set);
            heap += town.overOfSet(set);
        }

        int coinsNeeded(Town town, int ounces) {
            if (heap >= ounces || town.coin <= 0) {
                return 0;
            }
            return (int) ((ounces - heap + town.coin - 1) / town.coin);
        }

        void hangUp(int bell, int ounces, int coins, int coin) {
            purse -= coins;
            heap += (long) coins * coin - ounces;
            bells = bell + 1;
            hang |= 1 << bell;
        }

        static long priceAt(long much, int trust) {
            return much * (15 - trust) / 10;
        }

        long toBePaid(Town town) {
            long sum = priceAt(debt, trust);
            int asked = town.duesOf(year);
            for (int due = 0; due < MOST_DUES && asked >> due != 0; due++) {
                if ((asked >> due & 1) == 1) {
                    sum += priceAt(town.dueMuch[due], trust);
                }
            }
            return sum;
        }

        /** Pays if the purse can; else answers the price that was not paid. */
        private long unpaidOf(long much) {
            long price = priceAt(much, trust);
            if (price > purse) {
                return price;
            }
            purse -= price;
            return 0;
        }

        /** A year passes; whether all was paid in it. */
        boolean passYear(Town town, int wardsMissing) {
            purse += town.tax;
            long unpaid = unpaidOf(debt);
            int asked = town.duesOf(year);
            for (int due = 0; due < MOST_DUES && asked >> due != 0; due++) {
                if ((asked >> due & 1) == 1) {
                    unpaid += unpaidOf(town.dueMuch[due]);
                }
            }
            debt = 2 * unpaid;
            int change = wardsMissing == 0 ? 1 : -Integer.bitCount(wardsMissing);
            if (unpaid != 0) {
                change--;
            }
            trust = Math.max(0, Math.min(MOST_TRUST, trust + change));
            year++;
            return unpaid == 0;
        }
    }

    /** A town, how it is now, and how it was ahead of each act. */
    private static final class World {
        boolean kept = false;
        final Town town = new Town();
        final State state = new State();
        private final State[] past = new State[MOST_ACTS];
        int acts = 0;

        World() {
            for (int i = 0; i < past.length; i++) {
                past[i] = new State();
            }
        }

        void begin() {
            state.begin(town);
            acts = 0;
        }

        /** Keeps the state for undo; false, and nothing happens, if there were too many acts. */
        boolean beginAct() {
            if (acts < 0 || acts >= past.length) {
                return false;
            }
            past[acts].copy(state);
            acts++;
            return true;
        }

        boolean goBackTo(int act) {
            if (act < 0 || act >= acts || act >= past.length) {
                return false;
            }
            state.copy(past[act]);
            acts = act;
            return true;
        }

        void copy(World other) {
            town.copy(other.town);
            state.copy(other.state);
            acts = other.acts;
            for (int i = 0; i < acts && i < past.length; i++) {
                past[i].copy(other.past[i]);
            }
        }
    }

    /** A slot's row of numbers. */
    private static final class Row {
        boolean full = false;
        int width = 0;
        int size = 0;
        final long[] numbers = new long[MOST_NUMBERS];

        void begin(int itsWidth, int itsSize) {
            full = true;
            width = itsWidth;
            size = itsSize;
            Arrays.fill(numbers, 0);
        }

        void put(int i, long v) {
            if (i < 0 || i >= numbers.length) {
                return;
            }
            switch (width) {
                case 0:
                    numbers[i] = (byte) v;
                    break;
                case 1:
                    numbers[i] = (short) v;
                    break;
                case 2:
                    numbers[i] = (int) v;
                    break;
                default:
                    numbers[i] = v;
                    break;
            }
        }

        boolean reaches(int from, int n) {
            return from >= 0 && n >= 0 && n <= size && from <= size - n;
        }

        /** Whether it is of years and bells, one behind the other. */
        boolean isPlan(int bells) {
            if (size % 2 != 0) {
                return false;
            }
            for (int i = 0; i < size && i < numbers.length; i++) {
                int bound = i % 2 == 0 ? YEARS : bells;
                if (numbers[i] < 0 || numbers[i] >= bound) {
                    return false;
                }
            }
            return true;
        }
    }

    /** The years to come, run on a state of its own. */
    private static final class Forecast {
        final State state = new State();
        final long[] purseBehind = new long[YEARS];
        final long[] debtBehind = new long[YEARS];
        final int[] trustBehind = new int[YEARS];
        int firstMissed = NONE;
        int firstUnpaid = NONE;
        int fullYears = 0;
        int notMelted = 0;
        // which wards miss a note is the dearest part of a year: asked anew when other bells ring
        private int ringingKnown = NONE;
        private int missingKnown = 0;

        private void begin(World world) {
            state.copy(world.state);
            firstMissed = NONE;
            firstUnpaid = NONE;
            fullYears = 0;
            notMelted = 0;
            ringingKnown = NONE;
        }

        private void passOne(Town town) {
            int year = state.year;
            if (year < 0 || year >= YEARS) {
                return;
            }
            int ringing = state.ringing();
            if (ringing != ringingKnown) {
                ringingKnown = ringing;
                missingKnown = town.wardsMissing(ringing);
            }
            int missing = missingKnown;
            boolean allPaid = state.passYear(town, missing);
            if (missing == 0) {
                fullYears++;
            } else if (firstMissed == NONE) {
                firstMissed = year;
            }
            if (!allPaid && firstUnpaid == NONE) {
                firstUnpaid = year;
            }
            purseBehind[year] = state.purse;
            debtBehind[year] = state.debt;
            trustBehind[year] = state.trust;
        }

        void runOn(World world) {
            runWithout(world, 0, true);
        }

        /** Melts a set now; then all years pass, or those to the first in which something is not paid. */
        void runWithout(World world, int set, boolean paidOrNot) {
            begin(world);
            state.takeDown(world.town, set);
            for (int i = 0; i < YEARS && state.year < YEARS && (paidOrNot || firstUnpaid == NONE); i++) {
                passOne(world.town);
            }
        }

        void runPlan(World world, Row row) {
            begin(world);
            int steps = Math.min(row.size, MOST_NUMBERS) / 2;
            int done = 0;
            for (int i = 0; i < YEARS && state.year < YEARS; i++) {
                done += meltPlanned(world.town, row, steps);
                passOne(world.town);
            }
            notMelted = steps - done;
        }

        private int meltPlanned(Town town, Row row, int steps) {
            int done = 0;
            for (int step = 0; step < steps && 2 * step + 1 < row.numbers.length; step++) {
                int bell = (int) row.numbers[2 * step + 1];
                if (row.numbers[2 * step] == state.year && town.law.whyNot(state.hang, bell) == 0) {
                    state.takeDown(town, 1 << bell);
                    done++;
                }
            }
            return done;
        }

        void runFrost(World world, int seed) {
            begin(world);
            long x = seed;
            for (int i = 0; i < YEARS && state.year < YEARS; i++) {
                x = freeze(world.town.frost, x);
                passOne(world.town);
            }
        }

        private long freeze(int frost, long from) {
            long x = from;
            int ringing = state.ringing();
            for (int bell = 0; bell < MOST_BELLS; bell++) {
                if ((ringing >> bell & 1) == 1) {
                    x = (1103515245L * x + 12345L) % 2147483648L;
                    if (x / 65536 % 100 < frost) {
                        state.cracked |= 1 << bell;
                    }
                }
            }
            return x;
        }

        /** Of a run from a year on: the first one behind which there never is debt. */
        int firstClear(int from) {
            int first = NONE;
            for (int year = YEARS - 1; year >= from && year >= 0 && debtBehind[year] == 0; year--) {
                first = year;
            }
            return first;
        }
    }

    /** Sets of bells and of towers, chosen among all there are. */
    private static final class Choice {
        // above what any tower holds, so a tower's number and its load fit one int
        private static final int SPAN = 200_000;
        private static final int NO_ROOM = Integer.MAX_VALUE;

        private final Forecast forecast;
        private final boolean[] allowed = new boolean[MOST_SETS];
        private final int[] packed = new int[MOST_SETS];
        // by blocks of notes: those whose last block is one note, those where it is longer
        private final int[] single = new int[MOST_BELLS + 1];
        private final int[] longer = new int[MOST_BELLS + 1];
        int testedSets = 0;
        int testedInAll = 0;
        int testedInSome = 0;
        int testedFewest = NONE;

        Choice(Forecast forecast) {
            this.forecast = forecast;
        }

        static boolean isFewer(int set, int other) {
            int difference = Integer.bitCount(set) - Integer.bitCount(other);
            return difference < 0 || difference == 0 && set < other;
        }

        private static int setsOf(World world) {
            return Math.min(MOST_SETS, 1 << world.state.bells);
        }

        void markLawful(World world) {
            int sets = setsOf(world);
            for (int set = 0; set < sets; set++) {
                allowed[set] = set == 0 || canEndIn(world, set);
            }
        }

        /** Whether one of the set can be melted last, behind all the others. */
        private boolean canEndIn(World world, int set) {
            for (int bell = 0; bell < MOST_BELLS; bell++) {
                int others = set & ~(1 << bell);
                if (others != set && isLawful(others)
                        && world.town.law.whyNot(world.state.hang & ~others, bell) == 0) {
                    return true;
                }
            }
            return false;
        }

        boolean isLawful(int set) {
            return set >= 0 && set < MOST_SETS && allowed[set];
        }

        int cheapest(World world, boolean byOunces) {
            markLawful(world);
            int best = NONE;
            int bestCost = 0;
            int sets = setsOf(world);
            for (int set = 0; set < sets; set++) {
                int cost = byOunces ? world.town.bells.weight(set) : Integer.bitCount(set);
                if (allowed[set] && (best == NONE || cost < bestCost)) {
                    forecast.runWithout(world, set, false);
                    if (forecast.firstUnpaid == NONE) {
                        best = set;
                        bestCost = cost;
                    }
                }
            }
            return best;
        }

        int loudest(World world) {
            markLawful(world);
            int best = 0;
            int most = NONE;
            int sets = setsOf(world);
            for (int set = 0; set < sets; set++) {
                // no set is louder than the most trust there is
                if (allowed[set] && (most < MOST_TRUST || isFewer(set, best))) {
                    forecast.runWithout(world, set, true);
                    int trust = forecast.state.trust;
                    if (trust > most || trust == most && isFewer(set, best)) {
                        best = set;
                        most = trust;
                    }
                }
            }
            return best;
        }

        int lightestFor(World world, int ounces, int from, int to) {
            Bells bells = world.town.bells;
            int best = NONE;
            int least = 0;
            int sets = setsOf(world);
            for (int set = 1; set < sets; set++) {
                int weight = bells.weight(set);
                int tin = bells.tinWeight(set);
                if ((set & ~world.state.hang) == 0 && tin >= from * weight && tin <= to * weight
                        && bells.leftWeight(set) >= ounces && (best == NONE || weight < least)) {
                    best = set;
                    least = weight;
                }
            }
            return best;
        }

        void testSets(World world, int tin, int coins) {
            testedSets = 0;
            testedInAll = 0;
            testedInSome = 0;
            testedFewest = NONE;
            int sets = setsOf(world);
            for (int set = 1; set < sets; set++) {
                if (isOfTin(world.town.bells, set, tin)
                        && (coins == NONE || world.town.coinsOfSet(set) == coins)) {
                    takeTested(set);
                }
            }
        }

        private static boolean isOfTin(Bells bells, int set, int tin) {
            int weight = bells.weight(set);
            return weight > 0 && bells.tinWeight(set) / weight == tin;
        }

        private void takeTested(int set) {
            int size = Integer.bitCount(set);
            testedInAll = testedSets == 0 ? set : testedInAll & set;
            testedInSome |= set;
            testedFewest = testedSets == 0 ? size : Math.min(testedFewest, size);
            testedSets++;
        }

        int fewestTowers(World world) {
            int best = NONE;
            int sets = 1 << world.town.towers;
            for (int towers = 0; towers < sets; towers++) {
                if ((best == NONE || isFewer(towers, best)) && holdsAll(world, towers)) {
                    best = towers;
                }
            }
            return best;
        }

        /**
         * Of each set of bells, the least tower (and load of it) by which it can
         * be hung when towers are filled one behind the other.
         */
        private boolean holdsAll(World world, int towers) {
            int hang = world.state.hang;
            if (world.town.bells.weight(hang) > world.town.roomIn(towers)) {
                return false;
            }
            packed[0] = 0;
            for (int set = 1; set <= hang && set < packed.length; set++) {
                if ((set & ~hang) == 0) {
                    packed[set] = leastPacked(world.town, towers, set);
                }
            }
            return hang >= 0 && hang < packed.length && packed[hang] != NO_ROOM;
        }

        private int leastPacked(Town town, int towers, int set) {
            int least = NO_ROOM;
            for (int bell = 0; bell < MOST_BELLS; bell++) {
                int others = set & ~(1 << bell);
                if (others != set && others >= 0 && others < packed.length) {
                    least = Math.min(least, packedWith(town, towers, packed[others], town.bells.ounces[bell]));
                }
            }
            return least;
        }

        private static int packedWith(Town town, int towers, int before, int ounces) {
            if (before == NO_ROOM) {
                return NO_ROOM;
            }
            int first = before / SPAN;
            for (int tower = Math.max(0, first); tower < MOST_TOWERS; tower++) {
                int load = tower == first ? before % SPAN : 0;
                if ((towers >> tower & 1) == 1 && load + ounces <= town.holds[tower]) {
                    return tower * SPAN + load + ounces;
                }
            }
            return NO_ROOM;
        }

        int fullest(World world, int holds) {
            int best = 0;
            int most = 0;
            int sets = setsOf(world);
            for (int set = 1; set < sets; set++) {
                int weight = world.town.bells.weight(set);
                if ((set & ~world.state.hang) == 0 && weight <= holds && weight > most) {
                    best = set;
                    most = weight;
                }
            }
            return best;
        }

        /** The set by which the fewest coins above a sum come, of such ones the one of the fewest bells. */
        int nearestSum(World world, int n) {
            markLawful(world);
            int sets = setsOf(world);
            int usable = 0;
            for (int set = 0; set < sets; set++) {
                usable |= allowed[set] ? set : 0;
            }
            int best = NONE;
            int least = 0;
            for (int set = 0; set < sets; set++) {
                int coins = world.town.coinsOfSet(set);
                if ((set & ~usable) == 0 && coins >= n
                        && (best == NONE || coins < least || coins == least && isFewer(set, best))) {
                    best = set;
                    least = coins;
                }
            }
            return best;
        }

        /**
         * Rows of all these notes, none beside one that is a note away. Neighbours
         * are glued into blocks, and rows of blocks are added and taken off by how
         * many are glued: rows of single notes alone would be too many to look at.
         */
        int rowsRung(int notes) {
            Arrays.fill(single, 0);
            Arrays.fill(longer, 0);
            single[0] = 1;
            for (int note = 0; note < NOTES; note++) {
                if ((notes >> note & 1) == 1) {
                    takeNote((notes << 1 >> note & 1) == 1);
                }
            }
            int sum = 0;
            int orders = 1;
            for (int blocks = 1; blocks <= MOST_BELLS; blocks++) {
                orders *= blocks;
                sum += orders * (single[blocks] + longer[blocks]);
            }
            return sum;
        }

        /** The next note begins a block, or is glued to the last one, if that is a note away. */
        private void takeNote(boolean besideLast) {
            for (int blocks = MOST_BELLS; blocks >= 0; blocks--) {
                int begun = blocks == 0 ? 0 : single[blocks - 1] + longer[blocks - 1];
                // two single notes can be glued in two ways, a longer block goes on in one
                longer[blocks] = besideLast ? -2 * single[blocks] - longer[blocks] : 0;
                single[blocks] = begun;
            }
        }
    }
}
