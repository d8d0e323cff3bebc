import java.util.Arrays;
import java.util.NoSuchElementException;

/** A harbour street in which no lamp may be lit by its owner; ../shared/DOC.md is its document. */
public final class PaneStreet {
    public static final int NONE = -1;

    private static final int MOST_PANES = 9;
    private static final int MOST_WALKERS = 6;
    private static final int MOST_TEXTS = 12;
    private static final int MOST_STREET_LINES = 14;
    private static final int MOST_LAW_LINES = 12;
    private static final int DEEPEST = 6;
    private static final int MOST_BYTES = 400;
    private static final int FED_BYTES = 20;
    private static final int MOST_STORE = 99;
    private static final int MOST_LIKES = 9;
    private static final int LIKES_AT_FIRST = 5;
    private static final int WILL_TO_LIGHT = 5;
    private static final int MOST_LIT = 999;
    private static final int OIL_AT_FIRST = 20;
    private static final int LAST_HOUR = 23;
    private static final int LAST_NIGHT = 9999;
    private static final int MOST_HOURS = 60;
    private static final int MOST_ROWS = 60;
    private static final int MOST_ACTS = 12;
    private static final int MOST_DARK = 99;
    private static final int SPOON_DARK = 3;
    private static final int SPAN_SEEDS = 6;
    private static final int MOST_SHARED = 999;
    private static final int MOST_ODDS = 6;
    private static final int MOST_TOLD_PANES = 8;
    private static final int MOST_WALK_BYTES = 40;
    private static final int LONGEST_WALK = 20;
    private static final int MOST_LEARNT_BYTES = 39;
    /** Above all numbers of steps, ways and places of which the least is looked for. */
    private static final int MORE_THAN_ANY = 1000;

    private static final int LIT_IN_AN_HOUR = 0;
    private static final int LIT_BY_HAND = 1;
    private static final int BURNT_OUT = 2;
    private static final int SNUFFED = 3;

    private final Text text = new Text();
    private final Street street = new Street();
    private final Street spare = new Street();
    private final Street imageOfStreet = new Street();
    private final Law law = new Law();
    private final Law spareLaw = new Law();
    private final Law imageOfLaw = new Law();
    private boolean imageIsKept;
    private final History history = new History();
    private final Clock clock = new Clock();
    private final Net net = new Net();
    private final Favours favours = new Favours();

    public PaneStreet() {
    }

    public int feed(int a, int b, int c, int d, int e) {
        if (text.length > MOST_BYTES - FED_BYTES) {
            return NONE;
        }
        text.put(a);
        text.put(b);
        text.put(c);
        text.put(d);
        text.put(e);
        return text.length;
    }

    public boolean end(int n) {
        if (n < 0 || n > text.length) {
            return false;
        }
        text.length = n;
        return true;
    }

    public int street() throws IllegalArgumentException, UnsupportedOperationException {
        text.scan();
        spare.copyFrom(street);
        if (!StreetText.readAll(text, spare)) {
            throw new IllegalArgumentException("the text of the street is wrong");
        }
        if (street.texts >= MOST_TEXTS) {
            throw new UnsupportedOperationException("there are twelve texts");
        }
        street.copyFrom(spare);
        street.texts++;
        history.forget();
        return street.texts;
    }

    public int law() throws IllegalArgumentException {
        text.scan();
        spareLaw.begin();
        if (!LawText.readAll(text, spareLaw)) {
            throw new IllegalArgumentException("the text of the law is wrong");
        }
        law.copyFrom(spareLaw);
        history.forget();
        return law.lines;
    }

    public int fault() {
        return text.fault;
    }

    public int pane(int pane, int what) throws IndexOutOfBoundsException, NoSuchElementException {
        needPane(pane);
        switch (what) {
            case 0: return street.oil.get(pane);
            case 1: return street.isBurning(pane) ? 1 : 0;
            case 2: return street.owner.get(pane);
            case 3: return street.dark.get(pane);
            case 4: return favours.canLight(street, law, pane);
            case 5: return clock.firstBurning(street, law, pane);
            case 6: return favours.whyDark(street, law, pane);
            case 7: return street.isBurning(pane) ? street.oil.get(pane) : 0;
            default: throw new NoSuchElementException("a pane has no such thing");
        }
    }

    public int walker(int walker, int what) throws IndexOutOfBoundsException, NoSuchElementException {
        needWalker(walker);
        switch (what) {
            case 0: return street.at.get(walker);
            case 1: return street.taper.get(walker);
            case 2: return street.heads.get(walker);
            case 3: return street.lit.get(walker);
            case 4: return favours.tapersFor(street, law, walker);
            case 5: return favours.turnOf(street, law, walker);
            case 6: return street.partOf(walker);
            default: throw new NoSuchElementException("a walker has no such thing");
        }
    }

    public int likes(int walker, int other) throws IndexOutOfBoundsException, IllegalArgumentException {
        needTwoWalkers(walker, other);
        return street.likesOf(walker, other);
    }

    public int will(int walker, int pane) throws IndexOutOfBoundsException {
        needWalker(walker);
        needPane(pane);
        law.look(street, walker, pane, street.likesFor(walker, pane), street.taper.get(walker));
        return law.willNow();
    }

    public boolean lights(int walker, int pane) throws IndexOutOfBoundsException {
        needWalker(walker);
        needPane(pane);
        return law.letsLight(street, walker, pane, street.likesFor(walker, pane), street.taper.get(walker));
    }

    public boolean isOpen(int pane, int other) throws IndexOutOfBoundsException, IllegalArgumentException {
        needTwoPanes(pane, other);
        return street.hasWay(pane, other);
    }

    public int hours(int n) throws IllegalArgumentException {
        needNumber(n, 1, MOST_HOURS);
        history.remember(street);
        int lamps = 0;
        for (int i = 0; i < n; i++) {
            lamps += clock.tick(street, law, true);
        }
        return lamps;
    }

    public int heads(int walker, int pane) throws IndexOutOfBoundsException {
        needWalker(walker);
        if (pane != NONE) {
            needPane(pane);
        }
        history.remember(street);
        int before = street.heads.get(walker);
        street.heads.set(walker, pane);
        return before;
    }

    public int strike(int walker) throws IndexOutOfBoundsException, IllegalStateException {
        needWalker(walker);
        int pane = street.at.get(walker);
        if (!street.mayStrike(walker, pane)) {
            throw new IllegalStateException("he can not light the lamp where he is");
        }
        history.remember(street);
        street.light(walker, pane, LIT_BY_HAND);
        return street.taper.get(walker);
    }

    public int snuff(int pane) throws IndexOutOfBoundsException, IllegalStateException {
        needPane(pane);
        if (!street.isBurning(pane) || street.owner.get(pane) == NONE) {
            throw new IllegalStateException("it is not burning, or nobody owns it");
        }
        history.remember(street);
        street.burning &= ~bit(pane);
        street.write(SNUFFED, pane, street.owner.get(pane));
        return street.oil.get(pane);
    }

    public int oil(int pane, int n) throws IndexOutOfBoundsException, IllegalArgumentException {
        needPane(pane);
        needNumber(n, 1, MOST_STORE);
        history.remember(street);
        street.oil.set(pane, Math.min(street.oil.get(pane) + n, MOST_STORE));
        return street.oil.get(pane);
    }

    public int taper(int walker, int n) throws IndexOutOfBoundsException, IllegalArgumentException {
        needWalker(walker);
        needNumber(n, 1, MOST_STORE);
        history.remember(street);
        street.taper.set(walker, Math.min(street.taper.get(walker) + n, MOST_STORE));
        return street.taper.get(walker);
    }

    public int like(int walker, int other, int n) throws IndexOutOfBoundsException, IllegalArgumentException {
        needTwoWalkers(walker, other);
        needNumber(n, 0, MOST_LIKES);
        history.remember(street);
        int before = street.likesOf(walker, other);
        street.setLikes(walker, other, n);
        return before;
    }

    public boolean way(int pane, int other, boolean is) throws IndexOutOfBoundsException, IllegalArgumentException {
        needTwoPanes(pane, other);
        history.remember(street);
        boolean before = street.hasWay(pane, other);
        street.setWay(pane, other, is);
        return before != is;
    }

    public int far(int pane, int other) throws IndexOutOfBoundsException {
        needPane(pane);
        needPane(other);
        return street.farOf(pane, other);
    }

    public int out() {
        return clock.firstAllDark(street, law);
    }

    public int spoon() {
        return clock.firstSpoon(street, law);
    }

    public int never() {
        return favours.neverLit(street, law);
    }

    public int round(int walker, boolean next) throws IndexOutOfBoundsException, IllegalArgumentException {
        int told = text.useUp();
        needWalker(walker);
        int panes = net.toldPanes(street, text, told);
        if (panes == NONE) {
            throw new IllegalArgumentException("these are not panes to go round");
        }
        int from = street.at.get(walker);
        int steps = net.roundSteps(street, from, panes);
        if (!next || steps == NONE) {
            return steps;
        }
        return net.roundBegin(from, panes, steps);
    }

    public int beats() {
        return net.fewestBeats(street);
    }

    public int parts() {
        return net.pieces(street);
    }

    public int bend() {
        return net.partingPanes(street);
    }

    public int closed(int pane, int other) throws IndexOutOfBoundsException {
        needPane(pane);
        needPane(other);
        return net.fewestClosed(street, pane, other);
    }

    public int madeUp() {
        return favours.fewestMadeUp(street, law);
    }

    public int whoLit() throws IllegalArgumentException {
        return placesTold();
    }

    public int ask() throws IllegalArgumentException {
        return net.paneToAsk(street, placesTold());
    }

    public boolean ring(int walker) throws IndexOutOfBoundsException {
        needWalker(walker);
        return favours.comesBack(street, law, walker);
    }

    public int sides() {
        return favours.secondSide(street);
    }

    public int pairs(int walker) throws IndexOutOfBoundsException {
        if (walker == NONE) {
            return favours.mostByPairs(street);
        }
        needWalker(walker);
        return favours.partnerOf(street, walker);
    }

    public int learnt() throws IllegalArgumentException {
        int told = text.useUp();
        if (!favours.areRows(street, text, told)) {
            throw new IllegalArgumentException("these are not rows of who lit whose lamp");
        }
        return favours.boundsThatFit(street, text, told);
    }

    public int share(int pane, int n) throws IndexOutOfBoundsException, IllegalArgumentException {
        needPane(pane);
        needNumber(n, 0, MOST_SHARED);
        spare.copyFrom(street);
        spare.giveOneByOne(n);
        return spare.oil.get(pane);
    }

    public int rests(int walker, int other) throws IndexOutOfBoundsException, IllegalArgumentException {
        needTwoWalkers(walker, other);
        return favours.restingChoices(street.likesOf(walker, other), street.likesOf(other, walker));
    }

    public int odds(int n, int k) throws IllegalArgumentException {
        needNumber(n, 0, MOST_ODDS);
        needNumber(k, 0, MOST_ODDS);
        return clock.mistOdds(street.fog, n, k);
    }

    public int bright() {
        return street.burning;
    }

    public int gloom() {
        return street.darkest();
    }

    public int lamplighter() {
        return street.busiest();
    }

    public int spent() {
        return street.withoutTaper();
    }

    public int crowd() {
        return street.fullest();
    }

    public int alike() {
        return street.likePairs();
    }

    public int ahead(int pane, int n, int what)
            throws IndexOutOfBoundsException, IllegalArgumentException, NoSuchElementException {
        needPane(pane);
        needNumber(n, 0, MOST_HOURS);
        if (what < 0 || what > 2) {
            throw new NoSuchElementException("there is no such thing ahead");
        }
        Street then = clock.after(street, law, n, false, street.seed);
        if (what == 0) {
            return then.oil.get(pane);
        }
        if (what == 1) {
            return then.isBurning(pane) ? 1 : 0;
        }
        return then.dark.get(pane);
    }

    public int trial(int n, boolean oil) throws IllegalArgumentException {
        needNumber(n, 0, MOST_HOURS);
        Street then = clock.after(street, law, n, true, street.seed);
        return oil ? then.oilOfAll() : then.burning;
    }

    public int span(int n, boolean most) throws IllegalArgumentException {
        needNumber(n, 0, MOST_HOURS);
        int bound = most ? 0 : MOST_PANES;
        for (int first = 1; first <= SPAN_SEEDS; first++) {
            int lamps = Integer.bitCount(clock.after(street, law, n, true, first).burning);
            bound = most ? Math.max(bound, lamps) : Math.min(bound, lamps);
        }
        return bound;
    }

    public int led(int pane, boolean night) throws IndexOutOfBoundsException {
        needPane(pane);
        int rows = 0;
        int latest = NONE;
        for (int ago = street.rows() - 1; ago >= 0; ago--) {
            if (street.readRow(ago, 3) == pane) {
                rows++;
                latest = street.readRow(ago, 0);
            }
        }
        return night ? latest : rows;
    }

    public int log(int ago, int what) throws NoSuchElementException {
        if (what < 0 || what > 4) {
            throw new NoSuchElementException("a row of the log has no such thing");
        }
        if (ago < 0 || ago >= street.rows()) {
            return -2;
        }
        return street.readRow(ago, what);
    }

    public int seed(int n) {
        int before = street.seed;
        street.seed = n;
        return before;
    }

    public boolean undo() {
        return history.recall(street);
    }

    public void image() {
        imageOfStreet.copyFrom(street);
        imageOfLaw.copyFrom(law);
        imageIsKept = true;
    }

    public boolean back() {
        if (!imageIsKept) {
            return false;
        }
        street.copyFrom(imageOfStreet);
        law.copyFrom(imageOfLaw);
        history.forget();
        return true;
    }

    public int count(int what) {
        switch (what) {
            case 0: return street.panes;
            case 1: return street.walkers;
            case 2: return street.texts;
            case 3: return law.lines;
            case 4: return street.hour;
            case 5: return street.night;
            case 6: return street.fog;
            case 7: return street.mist ? 1 : 0;
            case 8: return street.oilOfAll();
            case 9: return street.litByAll();
            case 10: return street.openWays();
            case 11: return street.rows();
            case 12: return history.kept;
            default: return NONE;
        }
    }

    private int placesTold() {
        int told = text.useUp();
        if (!net.isWalk(street, text, told)) {
            throw new IllegalArgumentException("these are not panes and hours ago");
        }
        return net.placesAfterWalk(street, text, told);
    }

    private void needPane(int pane) {
        if (pane < 0 || pane >= street.panes) {
            throw new IndexOutOfBoundsException("there is no such pane");
        }
    }

    private void needWalker(int walker) {
        if (walker < 0 || walker >= street.walkers) {
            throw new IndexOutOfBoundsException("there is no such walker");
        }
    }

    private void needTwoPanes(int pane, int other) {
        needPane(pane);
        needPane(other);
        if (pane == other) {
            throw new IllegalArgumentException("both panes are one");
        }
    }

    private void needTwoWalkers(int walker, int other) {
        needWalker(walker);
        needWalker(other);
        if (walker == other) {
            throw new IllegalArgumentException("both walkers are one");
        }
    }

    private static void needNumber(int n, int least, int most) {
        if (n < least || n > most) {
            throw new IllegalArgumentException("the number is none that can be");
        }
    }

    private static int bit(int n) {
        return 1 << n;
    }

    private static boolean hasBit(int bits, int n) {
        return (bits >> n & 1) != 0;
    }

    /** The number of the lowest bit; NONE of no bits. */
    private static int lowest(int bits) {
        for (int n = 0; n < MOST_PANES; n++) {
            if (hasBit(bits, n)) {
                return n;
            }
        }
        return NONE;
    }

    /** Numbers in a row; all indexes are tested here, so that no index can make the machine throw. */
    private static final class Row {
        private final int[] cells;

        Row(int length) {
            cells = new int[Math.max(length, 0)];
        }

        int get(int i) {
            return i >= 0 && i < cells.length ? cells[i] : 0;
        }

        void set(int i, int n) {
            if (i >= 0 && i < cells.length) {
                cells[i] = n;
            }
        }

        void add(int i, int n) {
            if (i >= 0 && i < cells.length) {
                cells[i] += n;
            }
        }

        void fill(int n) {
            Arrays.fill(cells, n);
        }

        void copyFrom(Row other) {
            System.arraycopy(other.cells, 0, cells, 0, Math.min(cells.length, other.cells.length));
        }
    }

    /** All that stands in the street at one time, without the law. */
    private static final class Street {
        int panes;
        int walkers;
        int texts;
        int hour;
        int night;
        int fog;
        boolean mist;
        int seed = 1;
        int burning;
        final Row oil = new Row(MOST_PANES);
        final Row owner = new Row(MOST_PANES);
        final Row dark = new Row(MOST_PANES);
        final Row ways = new Row(MOST_PANES);
        final Row at = new Row(MOST_WALKERS);
        final Row taper = new Row(MOST_WALKERS);
        final Row heads = new Row(MOST_WALKERS);
        final Row lit = new Row(MOST_WALKERS);
        final Row liking = new Row(MOST_WALKERS * MOST_WALKERS);
        private final Row written = new Row(MOST_ROWS);
        private int everWritten;

        void copyFrom(Street other) {
            panes = other.panes;
            walkers = other.walkers;
            texts = other.texts;
            hour = other.hour;
            night = other.night;
            fog = other.fog;
            mist = other.mist;
            seed = other.seed;
            burning = other.burning;
            oil.copyFrom(other.oil);
            owner.copyFrom(other.owner);
            dark.copyFrom(other.dark);
            ways.copyFrom(other.ways);
            at.copyFrom(other.at);
            taper.copyFrom(other.taper);
            heads.copyFrom(other.heads);
            lit.copyFrom(other.lit);
            liking.copyFrom(other.liking);
            written.copyFrom(other.written);
            everWritten = other.everWritten;
        }

        void addPane(int oilOfIt, boolean isLit) {
            int pane = panes;
            panes++;
            oil.set(pane, oilOfIt);
            owner.set(pane, NONE);
            dark.set(pane, 0);
            ways.set(pane, 0);
            if (isLit) {
                burning |= bit(pane);
            }
        }

        void addWalker(int pane, int tapers, int target) {
            int walker = walkers;
            walkers++;
            at.set(walker, pane);
            taper.set(walker, tapers);
            heads.set(walker, target);
            lit.set(walker, 0);
            for (int other = 0; other < walker; other++) {
                setLikes(walker, other, LIKES_AT_FIRST);
                setLikes(other, walker, LIKES_AT_FIRST);
            }
        }

        boolean isBurning(int pane) {
            return hasBit(burning, pane);
        }

        boolean hasWay(int pane, int other) {
            return hasBit(ways.get(pane), other);
        }

        void setWay(int pane, int other, boolean is) {
            if (is) {
                ways.set(pane, ways.get(pane) | bit(other));
                ways.set(other, ways.get(other) | bit(pane));
            } else {
                ways.set(pane, ways.get(pane) & ~bit(other));
                ways.set(other, ways.get(other) & ~bit(pane));
            }
        }

        int likesOf(int walker, int other) {
            return liking.get(walker * MOST_WALKERS + other);
        }

        void setLikes(int walker, int other, int n) {
            liking.set(walker * MOST_WALKERS + other, n);
        }

        /** What counts as a walker's likes when he stands ahead of a pane. */
        int likesFor(int walker, int pane) {
            int whose = owner.get(pane);
            return whose == NONE || whose == walker ? LIKES_AT_FIRST : likesOf(walker, whose);
        }

        int paneOf(int walker) {
            for (int pane = 0; pane < panes; pane++) {
                if (owner.get(pane) == walker) {
                    return pane;
                }
            }
            return NONE;
        }

        /** The panes to which a way goes from one of these. */
        int around(int some) {
            int found = 0;
            for (int pane = 0; pane < panes; pane++) {
                if (hasBit(some, pane)) {
                    found |= ways.get(pane);
                }
            }
            return found;
        }

        int farOf(int from, int to) {
            int seen = bit(from);
            for (int steps = 0; steps < MOST_PANES; steps++) {
                if (hasBit(seen, to)) {
                    return steps;
                }
                seen |= around(seen);
            }
            return NONE;
        }

        /** All panes that are reached from one by ways within some panes. */
        int reached(int from, int within) {
            int seen = bit(from) & within;
            for (int steps = 0; steps < MOST_PANES; steps++) {
                seen |= around(seen) & within;
            }
            return seen;
        }

        /** Where a step leads; it spreads from the target, so that the pane ahead of him is met first. */
        int stepTo(int from, int target) {
            int near = bit(target);
            if (hasBit(near, from)) {
                return from;
            }
            for (int steps = 0; steps < MOST_PANES; steps++) {
                int next = near | around(near);
                if (hasBit(next, from)) {
                    return lowest(near & ways.get(from));
                }
                near = next;
            }
            return from;
        }

        boolean mayStrike(int walker, int pane) {
            return taper.get(walker) > 0 && !isBurning(pane) && oil.get(pane) > 0 && owner.get(pane) != walker;
        }

        void light(int walker, int pane, int how) {
            burning |= bit(pane);
            dark.set(pane, 0);
            taper.add(walker, -1);
            lit.set(walker, Math.min(lit.get(walker) + 1, MOST_LIT));
            int whose = owner.get(pane);
            if (whose != NONE) {
                setLikes(whose, walker, Math.min(likesOf(whose, walker) + 1, MOST_LIKES));
            }
            write(how, pane, walker);
        }

        void burnDown(int pane) {
            if (isBurning(pane)) {
                oil.add(pane, -1);
                if (oil.get(pane) <= 0) {
                    burning &= ~bit(pane);
                    write(BURNT_OUT, pane, NONE);
                }
            }
            if (!isBurning(pane)) {
                dark.set(pane, Math.min(dark.get(pane) + 1, MOST_DARK));
            }
        }

        void turnHour() {
            hour++;
            if (hour > LAST_HOUR) {
                hour = 0;
                night = Math.min(night + 1, LAST_NIGHT);
            }
        }

        int draw() {
            seed = seed * 1103515245 + 12345;
            return seed >> 16 & 32767;
        }

        /** A row is packed into one number: night, hour, kind, pane, walker (one more, for none). */
        void write(int kind, int pane, int walker) {
            int row = (((night * 32 + hour) * 4 + kind) * 16 + pane) * 8 + walker + 1;
            written.set(everWritten % MOST_ROWS, row);
            everWritten++;
        }

        int rows() {
            return Math.min(everWritten, MOST_ROWS);
        }

        int readRow(int ago, int what) {
            int row = written.get((everWritten - 1 - ago) % MOST_ROWS);
            switch (what) {
                case 0: return row >> 14;
                case 1: return row >> 9 & 31;
                case 2: return row >> 7 & 3;
                case 3: return row >> 3 & 15;
                default: return (row & 7) - 1;
            }
        }

        int oilOfAll() {
            int sum = 0;
            for (int pane = 0; pane < panes; pane++) {
                sum += oil.get(pane);
            }
            return sum;
        }

        int litByAll() {
            int sum = 0;
            for (int walker = 0; walker < walkers; walker++) {
                sum += lit.get(walker);
            }
            return sum;
        }

        int partOf(int walker) {
            int all = litByAll();
            return all <= 0 ? 0 : lit.get(walker) * 100 / all;
        }

        int openWays() {
            int ends = 0;
            for (int pane = 0; pane < panes; pane++) {
                ends += Integer.bitCount(ways.get(pane));
            }
            return ends / 2;
        }

        int darkest() {
            int found = NONE;
            for (int pane = 0; pane < panes; pane++) {
                if (found == NONE || dark.get(pane) > dark.get(found)) {
                    found = pane;
                }
            }
            return found;
        }

        int busiest() {
            int found = NONE;
            int most = 0;
            for (int walker = 0; walker < walkers; walker++) {
                if (lit.get(walker) > most) {
                    most = lit.get(walker);
                    found = walker;
                }
            }
            return found;
        }

        int withoutTaper() {
            int found = 0;
            for (int walker = 0; walker < walkers; walker++) {
                if (taper.get(walker) == 0) {
                    found |= bit(walker);
                }
            }
            return found;
        }

        int fullest() {
            int found = NONE;
            int most = 0;
            for (int pane = 0; pane < panes; pane++) {
                int here = 0;
                for (int walker = 0; walker < walkers; walker++) {
                    here += at.get(walker) == pane ? 1 : 0;
                }
                if (here > most) {
                    most = here;
                    found = pane;
                }
            }
            return found;
        }

        int likePairs() {
            int pairs = 0;
            for (int walker = 0; walker < walkers; walker++) {
                for (int other = walker + 1; other < walkers; other++) {
                    if (taper.get(walker) == taper.get(other) && at.get(walker) == at.get(other)) {
                        pairs++;
                    }
                }
            }
            return pairs;
        }

        void giveOneByOne(int n) {
            for (int given = 0; given < n; given++) {
                int poorest = NONE;
                for (int pane = 0; pane < panes; pane++) {
                    if (poorest == NONE || oil.get(pane) < oil.get(poorest)) {
                        poorest = pane;
                    }
                }
                if (poorest == NONE || oil.get(poorest) >= MOST_STORE) {
                    return;
                }
                oil.add(poorest, 1);
            }
        }
    }

    /** The words and signs of both texts; facts are what a law may ask about a walker and a pane. */
    private enum Term {
        END("", NONE), WRONG("", NONE), NUMBER("", NONE),
        NEXT_LINE(";", NONE), OPEN("(", NONE), CLOSE(")", NONE), PLUS("+", NONE), LESS("<", NONE), MORE(">", NONE),
        PANE("pane", 0), WALKER("walker", 1), OIL("oil", 2), DARK("dark", 3),
        TAPER("taper", 4), LIKES("likes", 5), HOUR("hour", 6), OWNED("owned", 7), MISTY("misty", 8),
        LIT("lit", NONE), AT("at", NONE), OWNS("owns", NONE), HEADS("heads", NONE), WAY("way", NONE),
        FOG("fog", NONE), NIGHT("night", NONE), KIND("kind", NONE), COLD("cold", NONE), PASS("pass", NONE),
        IF("if", NONE), NOT("not", NONE), AND("and", NONE), OR("or", NONE);

        private static final Term[] ALL = values();

        final String spelling;
        final int fact;

        Term(String spelling, int fact) {
            this.spelling = spelling;
            this.fact = fact;
        }

        /** Whether its fact is a number, not a yes or no. */
        boolean isPart() {
            return fact >= 0 && fact < 7;
        }

        boolean isYesOrNo() {
            return fact >= 7;
        }
    }

    /** The tape, and the terms of the text that was on it when it was read last. */
    private static final class Text {
        private static final int LONGEST_NUMBER = 3;

        private final Row bytes = new Row(MOST_BYTES);
        int length;
        private final Term[] terms = new Term[MOST_BYTES + 1];
        private final Row begins = new Row(MOST_BYTES + 1);
        private final Row values = new Row(MOST_BYTES + 1);
        private int now;
        int fault = NONE;

        void put(int n) {
            for (int shift = 24; shift >= 0; shift -= 8) {
                bytes.set(length, n >> shift & 255);
                length++;
            }
        }

        /** How many bytes were told; they can be read till others are fed. */
        int useUp() {
            int told = length;
            length = 0;
            return told;
        }

        int byteAt(int i) {
            return bytes.get(i);
        }

        /** Uses the tape up and parts it into terms, an END behind the last one. */
        void scan() {
            int all = useUp();
            int from = 0;
            now = 0;
            fault = NONE;
            for (int i = 0; i < terms.length; i++) {
                from = behindBlanks(from, all);
                int to = behindTerm(from, all);
                terms[i] = termOf(from, to);
                begins.set(i, from);
                values.set(i, terms[i] == Term.NUMBER ? valueOf(from, to) : 0);
                if (from >= all) {
                    return;
                }
                from = to;
            }
        }

        private int behindBlanks(int from, int all) {
            int to = from;
            while (to < all && bytes.get(to) == ' ') {
                to++;
            }
            return to;
        }

        private int behindTerm(int from, int all) {
            int first = kindOf(bytes.get(from));
            int to = Math.min(from + 1, all);
            while (to < all && first != 0 && kindOf(bytes.get(to)) == first) {
                to++;
            }
            return to;
        }

        /** Signs are of kind 0: each stands alone. */
        private static int kindOf(int sign) {
            if (sign >= 'a' && sign <= 'z') {
                return 1;
            }
            return sign >= '0' && sign <= '9' ? 2 : 0;
        }

        private Term termOf(int from, int to) {
            if (from >= to) {
                return Term.END;
            }
            if (kindOf(bytes.get(from)) == 2) {
                return to - from <= LONGEST_NUMBER ? Term.NUMBER : Term.WRONG;
            }
            for (Term term : Term.ALL) {
                if (spells(term.spelling, from, to)) {
                    return term;
                }
            }
            return Term.WRONG;
        }

        private boolean spells(String spelling, int from, int to) {
            if (spelling.length() != to - from) {
                return false;
            }
            for (int i = 0; i < spelling.length(); i++) {
                if (spelling.charAt(i) != bytes.get(from + i)) {
                    return false;
                }
            }
            return true;
        }

        private int valueOf(int from, int to) {
            int value = 0;
            for (int i = from; i < to; i++) {
                value = value * 10 + bytes.get(i) - '0';
            }
            return value;
        }

        /** The term that is looked at. */
        Term term() {
            Term term = now >= 0 && now < terms.length ? terms[now] : null;
            return term == null ? Term.END : term;
        }

        boolean is(Term term) {
            return term() == term;
        }

        void step() {
            now++;
        }

        /** Steps over a term, if it stands here. */
        boolean take(Term term) {
            if (term() != term) {
                return false;
            }
            now++;
            return true;
        }

        /** Steps over a term that must stand here. */
        boolean need(Term term) {
            return take(term) || wrong();
        }

        /** Steps over a number up to this one that must stand here; else NONE. */
        int needUpTo(int most) {
            if (term() != Term.NUMBER || values.get(now) > most) {
                fault = begins.get(now);
                return NONE;
            }
            now++;
            return values.get(now - 1);
        }

        /** Whether a line begins here, behind so many; a wrong begin is told as the fault. */
        boolean hasLine(int before, int most) {
            if (is(Term.END) || before > 0 && !need(Term.NEXT_LINE)) {
                return false;
            }
            return before < most || wrong();
        }

        /** Tells that the term looked at can not stand here. */
        boolean wrong() {
            fault = begins.get(now);
            return false;
        }

        /** Tells the same of the term that was stepped over last. */
        boolean wrongBefore() {
            fault = begins.get(now - 1);
            return false;
        }
    }

    /** Reads a text of the street. */
    private static final class StreetText {
        static boolean readAll(Text text, Street to) {
            for (int line = 0; line <= MOST_STREET_LINES && text.hasLine(line, MOST_STREET_LINES); line++) {
                if (!readLine(text, to)) {
                    return false;
                }
            }
            return text.fault == NONE;
        }

        private static boolean readLine(Text text, Street to) {
            if (to.panes < MOST_PANES && text.take(Term.PANE)) {
                return readPane(text, to);
            }
            if (to.walkers < MOST_WALKERS && text.take(Term.WALKER)) {
                return readWalker(text, to);
            }
            if (text.take(Term.WAY)) {
                return readWay(text, to);
            }
            if (text.take(Term.LIKES)) {
                return readLikes(text, to);
            }
            return readTime(text, to);
        }

        private static boolean readPane(Text text, Street to) {
            int oil = OIL_AT_FIRST;
            if (text.take(Term.OIL)) {
                oil = text.needUpTo(MOST_STORE);
                if (oil < 0) {
                    return false;
                }
            }
            boolean isLit = oil > 0 && text.take(Term.LIT);
            to.addPane(oil, isLit);
            return true;
        }

        private static boolean readWalker(Text text, Street to) {
            int at = text.need(Term.AT) ? text.needUpTo(to.panes - 1) : NONE;
            int taper = at >= 0 && text.need(Term.TAPER) ? text.needUpTo(MOST_STORE) : NONE;
            if (taper < 0) {
                return false;
            }
            int owned = NONE;
            if (text.take(Term.OWNS)) {
                owned = text.needUpTo(to.panes - 1);
                if (owned < 0) {
                    return false;
                }
                if (to.owner.get(owned) != NONE) {
                    return text.wrongBefore();
                }
            }
            int target = NONE;
            if (text.take(Term.HEADS)) {
                target = text.needUpTo(to.panes - 1);
                if (target < 0) {
                    return false;
                }
            }
            if (owned >= 0) {
                to.owner.set(owned, to.walkers);
            }
            to.addWalker(at, taper, target);
            return true;
        }

        private static boolean readWay(Text text, Street to) {
            int pane = text.needUpTo(to.panes - 1);
            int other = pane >= 0 ? text.needUpTo(to.panes - 1) : NONE;
            if (other < 0) {
                return false;
            }
            if (other == pane) {
                return text.wrongBefore();
            }
            to.setWay(pane, other, true);
            return true;
        }

        private static boolean readLikes(Text text, Street to) {
            int walker = text.needUpTo(to.walkers - 1);
            int other = walker >= 0 ? text.needUpTo(to.walkers - 1) : NONE;
            if (other < 0) {
                return false;
            }
            if (other == walker) {
                return text.wrongBefore();
            }
            int likes = text.needUpTo(MOST_LIKES);
            if (likes < 0) {
                return false;
            }
            to.setLikes(walker, other, likes);
            return true;
        }

        private static boolean readTime(Text text, Street to) {
            if (text.take(Term.FOG)) {
                to.fog = text.needUpTo(100);
                return to.fog >= 0;
            }
            if (text.take(Term.HOUR)) {
                to.hour = text.needUpTo(LAST_HOUR);
                return to.hour >= 0;
            }
            if (text.take(Term.NIGHT)) {
                to.night = text.needUpTo(999);
                return to.night >= 0;
            }
            return text.wrong();
        }
    }

    /** Reads the text of the law. */
    private static final class LawText {
        private static final int MOST_N = 20;
        private static final int MOST_NUMBER = 999;

        static boolean readAll(Text text, Law to) {
            for (int line = 0; line <= MOST_LAW_LINES && text.hasLine(line, MOST_LAW_LINES); line++) {
                if (!readLine(text, to)) {
                    return false;
                }
            }
            return text.fault == NONE;
        }

        private static boolean readLine(Text text, Law to) {
            Term kind = text.term();
            int n = 0;
            if (text.take(Term.KIND) || text.take(Term.COLD)) {
                n = text.needUpTo(MOST_N);
            } else if (!text.need(Term.PASS)) {
                n = NONE;
            }
            if (n < 0) {
                return false;
            }
            to.beginLine(kind == Term.KIND ? n : -n, kind == Term.PASS);
            if (text.take(Term.IF) && !readCondition(text, to, 0)) {
                return false;
            }
            to.endLine();
            return true;
        }

        private static boolean readCondition(Text text, Law to, int depth) {
            for (int any = 0; any < MOST_BYTES; any++) {
                for (int all = 0; all < MOST_BYTES; all++) {
                    if (!readAtom(text, to, depth)) {
                        return false;
                    }
                    if (all > 0) {
                        to.emit(Law.AND);
                    }
                    if (!text.take(Term.AND)) {
                        break;
                    }
                }
                if (any > 0) {
                    to.emit(Law.OR);
                }
                if (!text.take(Term.OR)) {
                    break;
                }
            }
            return true;
        }

        private static boolean readAtom(Text text, Law to, int depth) {
            boolean isDeeper = text.is(Term.NOT) || text.is(Term.OPEN);
            if (isDeeper && depth >= DEEPEST) {
                return text.wrong();
            }
            if (text.take(Term.OPEN)) {
                return readCondition(text, to, depth + 1) && text.need(Term.CLOSE);
            }
            if (text.take(Term.NOT)) {
                boolean isRight = readAtom(text, to, depth + 1);
                to.emit(Law.NOT);
                return isRight;
            }
            if (text.term().isYesOrNo()) {
                to.emit(Law.FACTS + text.term().fact);
                text.step();
                return true;
            }
            if (!readSum(text, to)) {
                return false;
            }
            boolean isLess = text.take(Term.LESS);
            if (!isLess && !text.need(Term.MORE) || !readSum(text, to)) {
                return false;
            }
            to.emit(isLess ? Law.LESS : Law.MORE);
            return true;
        }

        private static boolean readSum(Text text, Law to) {
            for (int parts = 0; parts < MOST_BYTES; parts++) {
                if (text.term().isPart()) {
                    to.emit(Law.FACTS + text.term().fact);
                    text.step();
                } else {
                    int number = text.needUpTo(MOST_NUMBER);
                    if (number < 0) {
                        return false;
                    }
                    to.emit(number);
                }
                if (parts > 0) {
                    to.emit(Law.ADD);
                }
                if (!text.take(Term.PLUS)) {
                    return true;
                }
            }
            return text.wrong();
        }
    }

    /** The law: each line's condition stands as steps over a stack, so that asking it needs no recursion. */
    private static final class Law {
        static final int FACTS = 1000;
        static final int ADD = -1;
        static final int LESS = -2;
        static final int MORE = -3;
        static final int NOT = -4;
        static final int AND = -5;
        static final int OR = -6;
        private static final int DEEPEST_STACK = 64;

        int lines = NONE;
        private final Row worth = new Row(MOST_LAW_LINES);
        private final Row passes = new Row(MOST_LAW_LINES);
        private final Row ends = new Row(MOST_LAW_LINES);
        private final Row steps = new Row(MOST_BYTES);
        private int stepsSoFar;
        private final Row facts = new Row(Term.MISTY.fact + 1);
        private final Row stack = new Row(DEEPEST_STACK);

        void begin() {
            lines = 0;
            stepsSoFar = 0;
        }

        void beginLine(int worthOfIt, boolean isPass) {
            worth.set(lines, worthOfIt);
            passes.set(lines, isPass ? 1 : 0);
        }

        void emit(int step) {
            steps.set(stepsSoFar, step);
            stepsSoFar++;
        }

        void endLine() {
            ends.set(lines, stepsSoFar);
            lines++;
        }

        void copyFrom(Law other) {
            lines = other.lines;
            worth.copyFrom(other.worth);
            passes.copyFrom(other.passes);
            ends.copyFrom(other.ends);
            steps.copyFrom(other.steps);
            stepsSoFar = other.stepsSoFar;
        }

        /** Takes in what the lines ask about, ahead of willNow and passesNow. */
        void look(Street street, int walker, int pane, int likes, int taper) {
            facts.set(Term.WALKER.fact, walker);
            facts.set(Term.PANE.fact, pane);
            facts.set(Term.OIL.fact, street.oil.get(pane));
            facts.set(Term.DARK.fact, street.dark.get(pane));
            facts.set(Term.TAPER.fact, taper);
            facts.set(Term.LIKES.fact, likes);
            facts.set(Term.HOUR.fact, street.hour);
            facts.set(Term.OWNED.fact, street.owner.get(pane) != NONE ? 1 : 0);
            facts.set(Term.MISTY.fact, street.mist ? 1 : 0);
        }

        int willNow() {
            int will = facts.get(Term.LIKES.fact);
            for (int line = 0; line < lines; line++) {
                if (worth.get(line) != 0 && holds(line)) {
                    will += worth.get(line);
                }
            }
            return will;
        }

        boolean passesNow() {
            for (int line = 0; line < lines; line++) {
                if (passes.get(line) != 0 && holds(line)) {
                    return true;
                }
            }
            return false;
        }

        /** Whether he would light it, if he was there with these likes and this taper. */
        boolean letsLight(Street street, int walker, int pane, int likes, int taper) {
            if (taper <= 0 || street.isBurning(pane) || street.oil.get(pane) <= 0
                    || street.owner.get(pane) == walker) {
                return false;
            }
            look(street, walker, pane, likes, taper);
            return willNow() >= WILL_TO_LIGHT && !passesNow();
        }

        private boolean holds(int line) {
            int top = NONE;
            for (int i = line > 0 ? ends.get(line - 1) : 0; i < ends.get(line); i++) {
                int step = steps.get(i);
                if (step >= FACTS) {
                    top++;
                    stack.set(top, facts.get(step - FACTS));
                } else if (step >= 0) {
                    top++;
                    stack.set(top, step);
                } else if (step == NOT) {
                    stack.set(top, 1 - stack.get(top));
                } else {
                    top--;
                    stack.set(top, joined(step, stack.get(top), stack.get(top + 1)));
                }
            }
            return top < 0 || stack.get(top) != 0;
        }

        private static int joined(int step, int left, int right) {
            switch (step) {
                case ADD: return left + right;
                case LESS: return left < right ? 1 : 0;
                case MORE: return left > right ? 1 : 0;
                case AND: return left & right;
                default: return left | right;
            }
        }
    }

    /** Lets hours go by, in the street itself or in one of its own that is ahead of it. */
    private static final class Clock {
        private final Street then = new Street();

        /** One hour more: how many lamps were lit in it. */
        int tick(Street street, Law law, boolean draws) {
            street.mist = draws && street.draw() % 100 < street.fog;
            if (!street.mist) {
                walkOn(street);
            }
            int lamps = lightLamps(street, law);
            for (int pane = 0; pane < street.panes; pane++) {
                street.burnDown(pane);
            }
            street.turnHour();
            return lamps;
        }

        private void walkOn(Street street) {
            for (int walker = 0; walker < street.walkers; walker++) {
                int target = street.heads.get(walker);
                if (target != NONE) {
                    int next = street.stepTo(street.at.get(walker), target);
                    street.at.set(walker, next);
                    street.heads.set(walker, next == target ? NONE : target);
                }
            }
        }

        private int lightLamps(Street street, Law law) {
            int lamps = 0;
            for (int walker = 0; walker < street.walkers; walker++) {
                int pane = street.at.get(walker);
                int likes = street.likesFor(walker, pane);
                if (law.letsLight(street, walker, pane, likes, street.taper.get(walker))) {
                    street.light(walker, pane, LIT_IN_AN_HOUR);
                    lamps++;
                }
            }
            return lamps;
        }

        /** The street so many hours later, begun with a seed. */
        Street after(Street street, Law law, int n, boolean draws, int seed) {
            then.copyFrom(street);
            then.seed = seed;
            for (int i = 0; i < n; i++) {
                tick(then, law, draws);
            }
            return then;
        }

        int firstBurning(Street street, Law law, int pane) {
            then.copyFrom(street);
            for (int n = 0; n <= MOST_HOURS; n++) {
                if (then.isBurning(pane)) {
                    return n;
                }
                tick(then, law, false);
            }
            return NONE;
        }

        int firstAllDark(Street street, Law law) {
            then.copyFrom(street);
            for (int n = 0; n <= MOST_HOURS; n++) {
                if (then.burning == 0) {
                    return n;
                }
                tick(then, law, false);
            }
            return NONE;
        }

        int firstSpoon(Street street, Law law) {
            then.copyFrom(street);
            for (int n = 0; n <= MOST_HOURS; n++) {
                for (int pane = 0; pane < then.panes; pane++) {
                    if (then.owner.get(pane) != NONE && then.dark.get(pane) >= SPOON_DARK) {
                        return pane;
                    }
                }
                tick(then, law, false);
            }
            return NONE;
        }

        /** Odds in ten thousandths that at least k of n hours have mist; whole numbers keep them exact. */
        int mistOdds(int fog, int n, int k) {
            long fitting = 0;
            for (int mists = k; mists <= n; mists++) {
                long ways = 1;
                for (int i = 0; i < mists; i++) {
                    ways = ways * (n - i) / (i + 1);
                }
                fitting += ways * power(fog, mists) * power(100 - fog, n - mists);
            }
            long all = power(100, n);
            return all <= 0 ? 0 : (int) (fitting * 10000 / all);
        }

        private static long power(int base, int times) {
            long product = 1;
            for (int i = 0; i < times; i++) {
                product *= base;
            }
            return product;
        }
    }

    /** What is asked about the ways. */
    private static final class Net {
        private final Row fars = new Row(MOST_PANES * MOST_PANES);
        private final Row restOfRound = new Row((1 << MOST_PANES) * MOST_PANES);
        private final Row allowed = new Row(LONGEST_WALK + 1);
        private final Row parted = new Row(MOST_PANES + 1);

        /** The told panes as bits; NONE, if that is not what was told. */
        int toldPanes(Street street, Text text, int told) {
            if (told > MOST_TOLD_PANES) {
                return NONE;
            }
            int panes = 0;
            for (int i = 0; i < told; i++) {
                int pane = text.byteAt(i);
                if (pane >= street.panes || hasBit(panes, pane)) {
                    return NONE;
                }
                panes |= bit(pane);
            }
            return panes;
        }

        int roundSteps(Street street, int from, int panes) {
            if ((panes & ~street.reached(from, -1)) != 0) {
                return NONE;
            }
            measure(street);
            for (int left = 1; left <= panes; left++) {
                if ((left & ~panes) == 0) {
                    for (int last = 0; last < street.panes; last++) {
                        restOfRound.set(left * MOST_PANES + last, fewestSteps(left, last));
                    }
                }
            }
            return restOfRound.get(panes * MOST_PANES + from);
        }

        /** The pane where the first of the shortest rounds begins, after roundSteps. */
        int roundBegin(int from, int panes, int steps) {
            for (int pane = 0; pane < MOST_PANES; pane++) {
                if (hasBit(panes, pane) && stepsBy(panes, from, pane) == steps) {
                    return pane;
                }
            }
            return NONE;
        }

        private void measure(Street street) {
            for (int pane = 0; pane < street.panes; pane++) {
                for (int other = 0; other < street.panes; other++) {
                    fars.set(pane * MOST_PANES + other, street.farOf(pane, other));
                }
            }
        }

        private int fewestSteps(int left, int last) {
            int fewest = MORE_THAN_ANY;
            for (int pane = 0; pane < MOST_PANES; pane++) {
                if (hasBit(left, pane)) {
                    fewest = Math.min(fewest, stepsBy(left, last, pane));
                }
            }
            return fewest;
        }

        private int stepsBy(int left, int last, int pane) {
            int after = left & ~bit(pane);
            return fars.get(last * MOST_PANES + pane) + restOfRound.get(after * MOST_PANES + pane);
        }

        int fewestBeats(Street street) {
            int all = bit(street.panes) - 1;
            int found = all;
            for (int stands = 0; stands < all; stands++) {
                boolean isFewer = Integer.bitCount(stands) < Integer.bitCount(found);
                if (isFewer && (stands | street.around(stands)) == all) {
                    found = stands;
                }
            }
            return found;
        }

        int pieces(Street street) {
            int left = bit(street.panes) - 1;
            int pieces = 0;
            for (int pane = 0; pane < street.panes; pane++) {
                if (hasBit(left, pane)) {
                    left &= ~street.reached(pane, left);
                    pieces++;
                }
            }
            return pieces;
        }

        int partingPanes(Street street) {
            int found = 0;
            for (int pane = 0; pane < street.panes; pane++) {
                int others = street.reached(pane, -1) & ~bit(pane);
                if (others != 0 && street.reached(lowest(others), others) != others) {
                    found |= bit(pane);
                }
            }
            return found;
        }

        /** The fewest ways between a side with the one pane and a side with the other one. */
        int fewestClosed(Street street, int pane, int other) {
            if (pane == other) {
                return NONE;
            }
            int fewest = MORE_THAN_ANY;
            for (int side = 0; side < bit(street.panes); side++) {
                if (hasBit(side, pane) && !hasBit(side, other)) {
                    fewest = Math.min(fewest, waysOutOf(street, side));
                }
            }
            return fewest;
        }

        private int waysOutOf(Street street, int side) {
            int ways = 0;
            for (int pane = 0; pane < street.panes; pane++) {
                if (hasBit(side, pane)) {
                    ways += Integer.bitCount(street.ways.get(pane) & ~side);
                }
            }
            return ways;
        }

        boolean isWalk(Street street, Text text, int told) {
            if (told > MOST_WALK_BYTES || told % 2 != 0) {
                return false;
            }
            for (int i = 0; i < told; i += 2) {
                if (text.byteAt(i) >= street.panes || text.byteAt(i + 1) > LONGEST_WALK) {
                    return false;
                }
            }
            return true;
        }

        int placesAfterWalk(Street street, Text text, int told) {
            int places = bit(street.panes) - 1;
            allowed.fill(places);
            for (int i = 0; i < told; i += 2) {
                int ago = text.byteAt(i + 1);
                allowed.set(ago, allowed.get(ago) & bit(text.byteAt(i)));
            }
            for (int ago = LONGEST_WALK; ago > 0; ago--) {
                places &= allowed.get(ago);
                places |= street.around(places);
            }
            return places & allowed.get(0);
        }

        int paneToAsk(Street street, int places) {
            if (Integer.bitCount(places) < 2) {
                return NONE;
            }
            int found = NONE;
            int least = MORE_THAN_ANY;
            for (int pane = 0; pane < street.panes; pane++) {
                int greatest = greatestPart(street, places, pane);
                if (greatest < least) {
                    least = greatest;
                    found = pane;
                }
            }
            return found;
        }

        private int greatestPart(Street street, int places, int pane) {
            int greatest = 0;
            parted.fill(0);
            for (int place = 0; place < street.panes; place++) {
                if (hasBit(places, place)) {
                    int part = street.farOf(pane, place) - NONE;
                    parted.add(part, 1);
                    greatest = Math.max(greatest, parted.get(part));
                }
            }
            return greatest;
        }
    }

    /** Who would light whose lamp, and what the walkers' likes lead to. */
    private static final class Favours {
        private static final int GOES_BY_FOR = 4;

        private final Row mostOf = new Row(1 << MOST_WALKERS);

        int canLight(Street street, Law law, int pane) {
            int found = 0;
            for (int walker = 0; walker < street.walkers; walker++) {
                int likes = street.likesFor(walker, pane);
                if (law.letsLight(street, walker, pane, likes, street.taper.get(walker))) {
                    found |= bit(walker);
                }
            }
            return found;
        }

        int whyDark(Street street, Law law, int pane) {
            if (street.isBurning(pane) || street.owner.get(pane) == NONE) {
                return 0;
            }
            int found = canLight(street, law, pane);
            for (int walker = 0; walker < street.walkers; walker++) {
                if (law.letsLight(street, walker, pane, MOST_LIKES, street.taper.get(walker))) {
                    found |= bit(walker);
                }
            }
            return found;
        }

        int neverLit(Street street, Law law) {
            int found = 0;
            for (int pane = 0; pane < street.panes; pane++) {
                if (!street.isBurning(pane) && canLight(street, law, pane) == 0) {
                    found |= bit(pane);
                }
            }
            return found;
        }

        /** A pair told touches one pane alone, so each pane needs one pair at most. */
        int fewestMadeUp(Street street, Law law) {
            int pairs = 0;
            for (int pane = 0; pane < street.panes; pane++) {
                boolean isAsked = !street.isBurning(pane) && street.owner.get(pane) != NONE;
                if (isAsked && canLight(street, law, pane) == 0) {
                    if (whyDark(street, law, pane) == 0) {
                        return NONE;
                    }
                    pairs++;
                }
            }
            return pairs;
        }

        int tapersFor(Street street, Law law, int walker) {
            int near = street.reached(street.at.get(walker), -1);
            int taper = Math.max(street.taper.get(walker), 1);
            int lamps = 0;
            for (int pane = 0; pane < street.panes; pane++) {
                int likes = street.likesFor(walker, pane);
                if (hasBit(near, pane) && law.letsLight(street, walker, pane, likes, taper)) {
                    lamps++;
                }
            }
            return lamps;
        }

        int turnOf(Street street, Law law, int walker) {
            int found = NONE;
            int nearest = MORE_THAN_ANY;
            for (int pane = 0; pane < street.panes; pane++) {
                int far = street.farOf(street.at.get(walker), pane);
                if (far != NONE && far < nearest && isTrade(street, law, walker, pane)) {
                    nearest = far;
                    found = pane;
                }
            }
            return found;
        }

        /** Whether he would light it, and its owner would then light his. */
        private boolean isTrade(Street street, Law law, int walker, int pane) {
            int owner = street.owner.get(pane);
            int own = street.paneOf(walker);
            if (owner == NONE || owner == walker || own == NONE) {
                return false;
            }
            int thanks = Math.min(street.likesOf(owner, walker) + 1, MOST_LIKES);
            return law.letsLight(street, walker, pane, street.likesOf(walker, owner), street.taper.get(walker))
                    && law.letsLight(street, owner, own, thanks, street.taper.get(owner));
        }

        boolean comesBack(Street street, Law law, int walker) {
            int one = walker;
            for (int points = 0; points < MOST_WALKERS; points++) {
                int turn = turnOf(street, law, one);
                if (turn == NONE) {
                    return false;
                }
                one = street.owner.get(turn);
                if (one == walker) {
                    return true;
                }
            }
            return false;
        }

        int secondSide(Street street) {
            if (street.walkers < 2) {
                return NONE;
            }
            int found = NONE;
            int most = NONE;
            for (int side = 2; side < bit(street.walkers); side += 2) {
                int together = likesTogether(street, side);
                if (together > most) {
                    most = together;
                    found = side;
                }
            }
            return found;
        }

        private int likesTogether(Street street, int side) {
            int sum = 0;
            for (int one = 0; one < street.walkers; one++) {
                for (int other = 0; other < street.walkers; other++) {
                    if (one != other && hasBit(side, one) == hasBit(side, other)) {
                        sum += street.likesOf(one, other);
                    }
                }
            }
            return sum;
        }

        int mostByPairs(Street street) {
            for (int free = 1; free < bit(street.walkers); free++) {
                int one = lowest(free);
                int most = mostOf.get(free & ~bit(one));
                for (int other = one + 1; other < street.walkers; other++) {
                    if (hasBit(free, other) && arePair(street, one, other)) {
                        most = Math.max(most, mostWith(street, free, one, other));
                    }
                }
                mostOf.set(free, most);
            }
            return mostOf.get(bit(street.walkers) - 1);
        }

        private boolean arePair(Street street, int one, int other) {
            return street.farOf(street.at.get(one), street.at.get(other)) != NONE;
        }

        private int mostWith(Street street, int free, int one, int other) {
            return street.likesOf(one, other) + street.likesOf(other, one)
                    + mostOf.get(free & ~bit(one) & ~bit(other));
        }

        int partnerOf(Street street, int walker) {
            mostByPairs(street);
            int free = bit(street.walkers) - 1;
            for (int one = 0; one < street.walkers; one++) {
                if (hasBit(free, one)) {
                    int other = firstPartner(street, free, one);
                    if (one == walker) {
                        return other;
                    }
                    if (other == walker) {
                        return one;
                    }
                    free &= ~bit(one);
                    if (other != NONE) {
                        free &= ~bit(other);
                    }
                }
            }
            return NONE;
        }

        private int firstPartner(Street street, int free, int one) {
            if (mostOf.get(free & ~bit(one)) == mostOf.get(free)) {
                return NONE;
            }
            for (int other = one + 1; other < street.walkers; other++) {
                if (hasBit(free, other) && arePair(street, one, other)
                        && mostWith(street, free, one, other) == mostOf.get(free)) {
                    return other;
                }
            }
            return NONE;
        }

        boolean areRows(Street street, Text text, int told) {
            if (told > MOST_LEARNT_BYTES || told % 3 != 0) {
                return false;
            }
            for (int i = 0; i < told; i += 3) {
                int walker = text.byteAt(i);
                int pane = text.byteAt(i + 1);
                if (walker >= street.walkers || pane >= street.panes || text.byteAt(i + 2) > 1) {
                    return false;
                }
                int owner = street.owner.get(pane);
                if (owner == NONE || owner == walker) {
                    return false;
                }
            }
            return true;
        }

        int boundsThatFit(Street street, Text text, int told) {
            int found = 0;
            for (int bound = 1; bound <= MOST_LIKES; bound++) {
                boolean fits = true;
                for (int i = 0; i < told; i += 3) {
                    int likes = street.likesFor(text.byteAt(i), text.byteAt(i + 1));
                    fits &= likes >= bound == (text.byteAt(i + 2) == 1);
                }
                if (fits) {
                    found |= bit(bound);
                }
            }
            return found;
        }

        int restingChoices(int likesOfFirst, int likesOfSecond) {
            int found = 0;
            for (int first = 0; first < 2; first++) {
                for (int second = 0; second < 2; second++) {
                    boolean firstRests = gain(first, second, likesOfFirst) >= gain(1 - first, second, likesOfFirst);
                    boolean secondRests = gain(second, first, likesOfSecond) >= gain(1 - second, first, likesOfSecond);
                    if (firstRests && secondRests) {
                        found |= bit(2 * first + second);
                    }
                }
            }
            return found;
        }

        /** What one has by his choice (0 lights, 1 goes by) and the other one's. */
        private int gain(int own, int others, int likes) {
            if (own == 1) {
                return others == 0 ? GOES_BY_FOR : 0;
            }
            return others == 0 ? likes - 3 : -2;
        }
    }

    /** The street as it was ahead of each of the latest acts. */
    private static final class History {
        private final Street[] past = new Street[MOST_ACTS];
        private int next;
        int kept;

        History() {
            for (int i = 0; i < past.length; i++) {
                past[i] = new Street();
            }
        }

        void remember(Street street) {
            Street slot = slotAt(next);
            if (slot != null) {
                slot.copyFrom(street);
                next = (next + 1) % MOST_ACTS;
                kept = Math.min(kept + 1, MOST_ACTS);
            }
        }

        boolean recall(Street street) {
            int latest = (next + MOST_ACTS - 1) % MOST_ACTS;
            Street slot = slotAt(latest);
            if (kept <= 0 || slot == null) {
                return false;
            }
            street.copyFrom(slot);
            next = latest;
            kept--;
            return true;
        }

        void forget() {
            kept = 0;
        }

        private Street slotAt(int i) {
            return i >= 0 && i < past.length ? past[i] : null;
        }
    }
}
