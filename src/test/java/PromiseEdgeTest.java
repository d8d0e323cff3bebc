import java.util.NoSuchElementException;

/** The edges of the promises' own words: numbers of panes, walkers and whats, the tape, and what is refused. */
public final class PromiseEdgeTest {
    private static final Class<IndexOutOfBoundsException> INDEX = IndexOutOfBoundsException.class;
    private static final Class<IllegalArgumentException> ARGUMENT = IllegalArgumentException.class;
    private static final Class<IllegalStateException> STATE = IllegalStateException.class;
    private static final Class<NoSuchElementException> NO_ELEMENT = NoSuchElementException.class;
    private static final String REFUSED = "throws IllegalArgumentException";
    private static final int BLANKS = 0x20202020;

    private PromiseEdgeTest() {
    }

    public static void main(String[] args) {
        newObject();
        feed();
        end();
        street();
        law();
        fault();
        pane();
        walker();
        likes();
        willAndLights();
        isOpen();
        hours();
        heads();
        strike();
        snuff();
        oil();
        taper();
        like();
        way();
        farOutSpoonNever();
        round();
        net();
        madeUp();
        whoLitAndAsk();
        ringSidesPairs();
        learntAndShare();
        restsAndOdds();
        sums();
        ahead();
        trialAndSpan();
        ledAndLog();
        seed();
        undo();
        imageAndBack();
        count();
        Check.end();
    }

    private static void sentence(String promises, String words) {
        Check.sentence(promises, words);
    }

    private static void due(String call, Object got, Object want) {
        Check.due(call, got, want);
    }

    private static String lines(String line, int times) {
        return (line + ";").repeat(times - 1) + line;
    }

    /** Nine panes in a ring, and six walkers, of whom each owns the pane of his number and stands at the last one. */
    private static PaneStreet fullStreet() {
        PaneStreet x = Check.streetOf(lines("pane", 9));
        Check.street(x, "way 0 1;way 1 2;way 2 3;way 3 4;way 4 5;way 5 6;way 6 7;way 7 8;way 8 0");
        StringBuilder text = new StringBuilder("fog 0");
        for (int walker = 0; walker < 6; walker++) {
            text.append(";walker at 8 taper ").append(walker).append(" owns ").append(walker);
        }
        due("the full street", Check.street(x, text.toString()), 3);
        return x;
    }

    /** Two numbers that must not be one. */
    private static void unlike(String call, int count, Check.NumberCall withTheFirst) {
        Check.throwing(call + " of 0 and 0", ARGUMENT, () -> withTheFirst.answer(0));
        for (int other : new int[] {-1, count, 32, Integer.MIN_VALUE, Integer.MAX_VALUE}) {
            Check.throwing(call + " of 0 and " + other, INDEX, () -> withTheFirst.answer(other));
        }
        for (int other : new int[] {1, count - 1}) {
            due(call + " of 0 and " + other + " answers", Check.answerOf(() -> withTheFirst.answer(other)) instanceof String, false);
        }
    }

    /** The numbers that tell what is asked for; those beside them tell nothing. */
    private static void whats(String call, int least, int most, Check.NumberCall it) {
        Check.bounds(call + ", what", least, most, NO_ELEMENT, it);
    }

    private static void newObject() {
        sentence("1", "A street without PANES.");
        PaneStreet x = new PaneStreet();
        int[] want = {0, 0, 0, -1, 0, 0, 0, 0, 0, 0, 0, 0, 0};
        for (int what = 0; what < want.length; what++) {
            due("count " + what, x.count(what), want[what]);
        }
        Check.throwing("pane 0", INDEX, () -> x.pane(0, 0));
        Check.throwing("walker 0", INDEX, () -> x.walker(0, 0));
        due("the tape is empty", x.end(1), false);
        due("no act", x.undo(), false);
        due("no image", x.back(), false);
        due("no row", x.log(0, 0), -2);
    }

    private static void feed() {
        sentence("2", "Twenty bytes come behind the TAPE, of each number the highest first: how many it has; NONE, and "
            + "none come, if it would "
            + "have more than 400.");
        PaneStreet x = new PaneStreet();
        for (int bytes = 20; bytes <= 400; bytes += 20) {
            due("so many", x.feed(BLANKS, BLANKS, BLANKS, BLANKS, BLANKS), bytes);
        }
        due("420", x.feed(0, 0, 0, 0, 0), -1);
        due("none came", x.end(401), false);
        for (int bytes : new int[] {399, 382, 381}) {
            due("cut to " + bytes, x.end(bytes), true);
            due("20 more than " + bytes, x.feed(0, 0, 0, 0, 0), -1);
            due("none came to " + bytes, x.end(bytes + 1), false);
        }
        x.end(380);
        due("20 more than 380", x.feed(0x6b696e64, 0x20332020, BLANKS, BLANKS, BLANKS), 400);
        due("blanks, and kind 3", x.law(), 1);
        due("used up, it begins anew", x.feed(0, 0, 0, 0, 0), 20);
        x.end(19);
        due("behind 19", x.feed(0, 0, 0, 0, 0), 39);
        x.end(0);
        due("behind none", x.feed(0x70616e65, 0x3b666f67, 0x31323b68, 0x6f757231, 0x3b666f67), 20);
        Check.throwing("the highest first: pane;fog12;hour1;fog", ARGUMENT, x::street);
        due("20 bytes long", x.fault(), 20);
        x.feed(0xff202020, 0, 0, 0, 0);
        Check.throwing("a number below 0", ARGUMENT, x::street);
        due("its highest byte is 255", x.fault(), 0);
        x.feed(0x202020ff, 0, 0, 0, 0);
        Check.throwing("255 at the end", ARGUMENT, x::street);
        due("the lowest byte is the fourth", x.fault(), 3);
        PaneStreet each = new PaneStreet();
        each.feed(0x6e696768, 0x74203132, 0x33202020, BLANKS, 0x203b666f);
        each.feed(0x67203734, BLANKS, BLANKS, BLANKS, 0x3b686f75);
        each.end(36);
        due("in each place", each.street() + " " + each.count(5) + " " + each.count(6), "1 123 74");
    }

    private static void end() {
        sentence("3", "The TAPE has its first n bytes alone: true; false, and nothing happens, if it has fewer, or n is below 0.");
        PaneStreet x = new PaneStreet();
        due("0 of none", x.end(0), true);
        due("1 of none", x.end(1), false);
        due("-1 of none", x.end(-1), false);
        Check.feed(x, "fog 123");
        due("7 of 7", x.end(7), true);
        due("8 of 7", x.end(8), false);
        due("the greatest number", x.end(Integer.MAX_VALUE), false);
        due("-1", x.end(-1), false);
        due("the least number", x.end(Integer.MIN_VALUE), false);
        due("7 of 7 yet", x.end(7), true);
        due("6 of 7", x.end(6), true);
        due("7 of 6", x.end(7), false);
        due("the first 6", x.street() + " " + x.count(6), "1 12");
        due("1 of what was used up", x.end(1), false);
        Check.feed(x, "hour 9");
        due("0 of 6", x.end(0), true);
        due("1 of 0", x.end(1), false);
        due("no line", x.street() + " " + x.count(4), "2 0");
        Check.feed(x, " ".repeat(400));
        due("401 of 400", x.end(401), false);
        due("400 of 400", x.end(400), true);
        due("399 of 400", x.end(399), true);
        due("400 of 399", x.end(400), false);
    }

    private static void street() {
        sentence("4", "Uses the TAPE up: a text of THE STREET: how many there are.");
        PaneStreet x = new PaneStreet();
        due("empty", x.street(), 1);
        due("a pane", Check.street(x, "pane"), 2);
        due("used up", x.end(1), false);
        due("a wrong one", Check.street(x, "panel"), REFUSED);
        due("used up, too", x.end(1), false);
        for (int text = 3; text <= 12; text++) {
            due("text", Check.street(x, " "), text);
        }
        sentence("4", "IllegalArgumentException: it is wrong; UnsupportedOperationException: there are 12.");
        due("a 13th", Check.street(x, "pane"), "throws UnsupportedOperationException");
        due("used up", x.end(1), false);
        due("a wrong 13th", Check.street(x, "panel"), REFUSED);
        due("there are", x.count(2) + " " + x.count(0), "12 1");
    }

    private static void law() {
        sentence("5", "Uses the TAPE up: THE LAW: how many LINES.");
        PaneStreet x = new PaneStreet();
        due("empty", x.law(), 0);
        due("1", Check.law(x, "pass"), 1);
        due("used up", x.end(1), false);
        due("12", Check.law(x, lines("pass", 12)), 12);
        for (int text = 0; text < 20; text++) {
            due("as many laws as one likes", Check.law(x, "kind 1;kind 2"), 2);
        }
        sentence("5", "IllegalArgumentException: the text is wrong.");
        due("13", Check.law(x, lines("pass", 13)), REFUSED);
        due("used up, too", x.end(1), false);
        due("the one before", x.count(3), 2);
    }

    private static void fault() {
        sentence("6", "The first wrong byte of the latest text that was read; NONE without one, and ahead of any.");
        PaneStreet x = new PaneStreet();
        due("ahead of any", x.fault(), -1);
        Check.feed(x, "x");
        due("it was not read yet", x.fault(), -1);
        x.end(0);
        Check.street(x, "x");
        due("the first byte", x.fault(), 0);
        Check.street(x, " x");
        due("the second byte", x.fault(), 1);
        Check.law(x, "kind 4");
        due("without one", x.fault(), -1);
        Check.law(x, " ".repeat(399) + "x");
        due("the last byte", x.fault(), 399);
        Check.street(x, " ".repeat(396) + "fog ");
        due("behind the last byte", x.fault(), 400);
        Check.feed(x, 9);
        Check.answerOf(x::whoLit);
        due("rows are no text", x.fault(), 400);
        Check.street(x, "");
        due("an empty one", x.fault(), -1);
        Check.street(x, "fog");
        x.hours(1);
        x.undo();
        x.image();
        x.back();
        x.seed(4);
        due("all else leaves it", x.fault(), 3);
    }

    private static void pane() {
        sentence("7", "Of a PANE what 0 OIL, 1 1 if BURNING, 2 the OWNER (NONE), 3 DARK, 4 CAN, as bits, 5 WHEN (NONE), 6 "
            + "WHY, as bits (0, if it is "
            + "BURNING), 7 LASTS.");
        PaneStreet x = Check.streetOf("pane oil 6 lit;pane oil 7;walker at 0 taper 0 owns 1;walker at 0 taper 2 heads 1;"
            + "way 0 1;fog 100",
            "pass if dark<3");
        x.hours(2);
        int[] first = {4, 1, -1, 0, 0, 0, 0, 4};
        int[] second = {7, 0, 0, 2, 0, 2, 0, 0};
        for (int what = 0; what <= 7; what++) {
            due("of the first, what " + what, x.pane(0, what), first[what]);
            due("of the second, what " + what, x.pane(1, what), second[what]);
        }
        x.hours(1);
        due("can now", x.pane(1, 4), 0b10);
        due("why now", x.pane(1, 6), 0b10);
        PaneStreet full = fullStreet();
        for (int what = 0; what <= 7; what++) {
            int asked = what;
            Check.indexes("what " + what, 9, n -> full.pane(n, asked));
        }
        sentence("7", "NoSuchElementException: another what.");
        whats("of the first", 0, 7, n -> full.pane(0, n));
        whats("of the last", 0, 7, n -> full.pane(8, n));
    }

    private static void walker() {
        sentence("8", "Of a WALKER what 0 AT, 1 TAPER, 2 HEADS (NONE), 3 LIT, 4 TAPERS, 5 TURN (NONE), 6 PART.");
        PaneStreet x = Check.streetOf("pane;pane;pane;walker at 1 taper 2 owns 0 heads 2;walker at 0 taper 3 owns 1;way 0 1");
        x.hours(1);
        int[] first = {1, 1, 2, 1, 0, -1, 50};
        int[] second = {0, 2, -1, 1, 0, -1, 50};
        for (int what = 0; what <= 6; what++) {
            due("of the first, what " + what, x.walker(0, what), first[what]);
            due("of the second, what " + what, x.walker(1, what), second[what]);
        }
        x.way(1, 2, true);
        due("tapers by a way", x.walker(0, 4), 1);
        x.snuff(0);
        x.snuff(1);
        due("turns", x.walker(0, 5) + " " + x.walker(1, 5), "1 0");
        PaneStreet full = fullStreet();
        for (int what = 0; what <= 6; what++) {
            int asked = what;
            Check.indexes("what " + what, 6, n -> full.walker(n, asked));
        }
        sentence("8", "NoSuchElementException: another what.");
        whats("of the first", 0, 6, n -> full.walker(0, n));
        whats("of the last", 0, 6, n -> full.walker(5, n));
    }

    private static void likes() {
        sentence("9", "LIKES of the first one of the other one.");
        PaneStreet x = fullStreet();
        x.like(0, 5, 2);
        x.like(5, 0, 8);
        due("of the first one", x.likes(0, 5), 2);
        due("of the last one", x.likes(5, 0), 8);
        due("of those beside them", x.likes(0, 4) + x.likes(4, 0) + x.likes(5, 4) + x.likes(1, 5), 20);
        sentence("9", "IllegalArgumentException: both are one.");
        unlike("likes", 6, n -> x.likes(0, n));
        unlike("likes", 6, n -> x.likes(n, 0));
        Check.throwing("the last one twice", ARGUMENT, () -> x.likes(5, 5));
    }

    private static void willAndLights() {
        sentence("10", "WILL.");
        PaneStreet x = fullStreet();
        Check.indexes("will of walkers", 6, n -> x.will(n, 0));
        Check.indexes("will of panes", 9, n -> x.will(0, n));
        due("will without a law", x.will(5, 8), 5);
        sentence("11", "Whether he would LIGHT it, if he was there now.");
        Check.indexes("lights of walkers", 6, n -> x.lights(n, 0));
        Check.indexes("lights of panes", 9, n -> x.lights(0, n));
        due("without a taper", x.lights(0, 8), false);
        due("with one, where he is", x.lights(1, 8), true);
        due("with one, elsewhere", x.lights(1, 0), true);
        due("his own", x.lights(1, 1), false);
        due("asking lights none", x.bright(), 0);
    }

    private static void isOpen() {
        sentence("12", "Whether there is a WAY of two PANES.");
        PaneStreet x = fullStreet();
        due("the first and the last", x.isOpen(0, 8) && x.isOpen(8, 0), true);
        due("the first and the last but one", x.isOpen(0, 7) || x.isOpen(7, 0), false);
        sentence("12", "IllegalArgumentException: both are one.");
        unlike("isOpen", 9, n -> x.isOpen(0, n));
        unlike("isOpen", 9, n -> x.isOpen(n, 0));
        Check.throwing("the last one twice", ARGUMENT, () -> x.isOpen(8, 8));
    }

    private static void hours() {
        sentence("13", "So many HOURS more (1 to 60): how many LAMPS were lit in these.");
        PaneStreet x = Check.streetOf("pane oil 1;pane oil 1;walker at 0 taper 9;walker at 1 taper 9");
        due("two", x.hours(1), 2);
        due("none, without oil", x.hours(59), 0);
        x.oil(0, 1);
        due("one", x.hours(60), 1);
        due("120 hours", x.count(5) + " " + x.count(4), "5 0");
        x.oil(0, 2);
        x.strike(0);
        due("what was lit by hand does not count", x.hours(2), 0);
        due("without panes", new PaneStreet().hours(60), 0);
        PaneStreet again = Check.streetOf("pane oil 3;pane oil 3;walker at 0 taper 9 heads 1;way 0 1");
        due("one who goes on lights the next", again.hours(1), 1);
        again.heads(0, 0);
        due("and comes back", again.hours(1), 1);
        sentence("13", "IllegalArgumentException: they are none.");
        Check.bounds("hours", 1, 60, ARGUMENT, n -> again.hours(n));
        Check.throwing("0", ARGUMENT, () -> again.hours(0));
    }

    private static void heads() {
        sentence("14", "A WALKER HEADS to a PANE (NONE: to none): to which he did; NONE.");
        PaneStreet x = fullStreet();
        due("to none at first", x.heads(0, 0), -1);
        due("to the first one", x.heads(0, 8), 0);
        due("to the last one", x.heads(0, -1), 8);
        due("to none", x.heads(0, -1), -1);
        Check.indexes("heads of walkers", 6, n -> x.heads(n, -1));
        Check.bounds("heads to panes", -1, 8, INDEX, n -> x.heads(0, n));
        Check.throwing("9", INDEX, () -> x.heads(0, 9));
        Check.throwing("no walker, to none", INDEX, () -> x.heads(-1, -1));
    }

    private static void strike() {
        sentence("15", "He lights by hand: TAPER then.");
        for (int taper : new int[] {1, 2, 98, 99}) {
            due("taper then", Check.streetOf("pane oil 1;walker at 0 taper " + taper).strike(0), taper - 1);
        }
        sentence("15", "IllegalStateException: TAPER is 0, the LAMP is BURNING, is his own, or has no OIL.");
        PaneStreet x = Check.streetOf("pane oil 1;pane;walker at 0 taper 0;walker at 0 taper 1;walker at 0 taper 1 owns 0;"
            + "walker at 1 taper 1");
        Check.throwing("taper is 0", STATE, () -> x.strike(0));
        Check.throwing("his own", STATE, () -> x.strike(2));
        due("none of these", x.strike(1), 0);
        Check.throwing("taper is 0 now", STATE, () -> x.strike(1));
        x.taper(1, 1);
        Check.throwing("burning", STATE, () -> x.strike(1));
        x.hours(1);
        Check.throwing("no oil", STATE, () -> x.strike(1));
        x.oil(0, 1);
        due("oil of 1", x.strike(1), 0);
        PaneStreet full = fullStreet();
        for (int walker : new int[] {-1, 6, 32, Integer.MIN_VALUE, Integer.MAX_VALUE}) {
            Check.throwing("no walker " + walker, INDEX, () -> full.strike(walker));
        }
        Check.throwing("the first one has no taper", STATE, () -> full.strike(0));
        due("the last one has 5", full.strike(5), 4);
    }

    private static void snuff() {
        sentence("16", "Snuffed by its OWNER: OIL of it.");
        for (int oil : new int[] {1, 2, 98, 99}) {
            due("oil of it", Check.streetOf("pane oil " + oil + " lit;walker at 0 taper 0 owns 0").snuff(0), oil);
        }
        sentence("16", "IllegalStateException: it is not BURNING, or has no OWNER.");
        PaneStreet x = Check.streetOf(lines("pane", 7) + ";pane lit;pane lit;walker at 0 taper 0 owns 0;walker at 0 taper "
            + "0 owns 8");
        Check.throwing("not burning, owned", STATE, () -> x.snuff(0));
        Check.throwing("not burning, without an owner", STATE, () -> x.snuff(1));
        Check.throwing("burning, without an owner", STATE, () -> x.snuff(7));
        due("burning, owned", x.snuff(8), 20);
        Check.throwing("not twice", STATE, () -> x.snuff(8));
        for (int pane : new int[] {-1, 9, 32, Integer.MIN_VALUE, Integer.MAX_VALUE}) {
            Check.throwing("no pane " + pane, INDEX, () -> x.snuff(pane));
        }
    }

    private static void oil() {
        sentence("17", "OIL is given (1 to 99): what there is then.");
        PaneStreet x = Check.streetOf(lines("pane oil 0", 9));
        due("1", x.oil(0, 1), 1);
        due("97 more", x.oil(0, 97), 98);
        due("1 more", x.oil(0, 1), 99);
        due("2 more", x.oil(0, 2), 99);
        due("98", x.oil(8, 98), 98);
        due("99", x.oil(7, 99), 99);
        due("no lamp is lit by it", x.bright(), 0);
        sentence("17", "IllegalArgumentException: n is none.");
        Check.bounds("oil", 1, 99, ARGUMENT, n -> x.oil(0, n));
        Check.indexes("oil of panes", 9, n -> x.oil(n, 1));
    }

    private static void taper() {
        sentence("18", "TAPER is bought (1 to 99): what he has then.");
        PaneStreet x = Check.streetOf("pane;" + lines("walker at 0 taper 0", 6));
        due("1", x.taper(0, 1), 1);
        due("97 more", x.taper(0, 97), 98);
        due("1 more", x.taper(0, 1), 99);
        due("2 more", x.taper(0, 2), 99);
        due("98", x.taper(5, 98), 98);
        due("99", x.taper(4, 99), 99);
        sentence("18", "IllegalArgumentException: n is none.");
        Check.bounds("taper", 1, 99, ARGUMENT, n -> x.taper(0, n));
        Check.indexes("taper of walkers", 6, n -> x.taper(n, 1));
    }

    private static void like() {
        sentence("19", "LIKES are told: what they were.");
        PaneStreet x = fullStreet();
        due("5 at first", x.like(0, 5, 0), 5);
        due("0", x.like(0, 5, 9), 0);
        due("9", x.like(0, 5, 9), 9);
        due("now", x.likes(0, 5), 9);
        due("the other way round", x.likes(5, 0), 5);
        sentence("19", "IllegalArgumentException: both are one, or n is none (0 to 9).");
        Check.bounds("like", 0, 9, ARGUMENT, n -> x.like(0, 5, n));
        unlike("like", 6, n -> x.like(0, n, 3));
        unlike("like", 6, n -> x.like(n, 0, 3));
        Check.throwing("the last one twice", ARGUMENT, () -> x.like(5, 5, 3));
    }

    private static void way() {
        sentence("20", "A WAY is opened, or closed: whether that changed.");
        PaneStreet x = Check.streetOf(lines("pane", 9));
        due("closed, and it was", x.way(0, 8, false), false);
        due("opened", x.way(0, 8, true), true);
        due("opened, and it was", x.way(8, 0, true), false);
        due("open", x.isOpen(0, 8), true);
        due("closed", x.way(8, 0, false), true);
        due("not open", x.isOpen(0, 8), false);
        sentence("20", "IllegalArgumentException: both are one.");
        unlike("way opened", 9, n -> x.way(0, n, true));
        unlike("way closed", 9, n -> x.way(n, 0, false));
        Check.throwing("the last one twice", ARGUMENT, () -> x.way(8, 8, true));
    }

    private static void farOutSpoonNever() {
        sentence("21", "FAR (0 to itself); NONE.");
        PaneStreet x = fullStreet();
        due("to itself", x.far(0, 0) + x.far(8, 8), 0);
        due("1", x.far(0, 8), 1);
        due("4", x.far(0, 4) + x.far(0, 5), 8);
        Check.indexes("far", 9, n -> x.far(n, 0));
        Check.indexes("far", 9, n -> x.far(0, n));
        due("none", Check.streetOf("pane;pane").far(0, 1), -1);

        sentence("22", "OUT; NONE.");
        due("0", x.out(), 0);
        due("60", Check.streetOf("pane oil 60 lit").out(), 60);
        due("none", Check.streetOf("pane oil 61 lit").out(), -1);

        sentence("23", "SPOON; NONE.");
        due("the first", Check.streetOf("pane;walker at 0 taper 0 owns 0").spoon(), 0);
        due("the last", Check.streetOf(lines("pane", 9) + ";walker at 0 taper 0 owns 8").spoon(), 8);
        due("none", Check.streetOf(lines("pane", 9)).spoon(), -1);

        sentence("24", "NEVER, as bits.");
        due("0", x.never(), 0);
        due("the first", Check.streetOf("pane").never(), 1);
        due("the last", Check.streetOf(lines("pane lit", 8) + ";pane").never(), 0x100);
    }

    private static Object round(PaneStreet x, int walker, boolean next, int... panes) {
        Check.feed(x, panes);
        return Check.answerOf(() -> x.round(walker, next));
    }

    private static void round() {
        sentence("25", "Uses the TAPE up: ROUND (next false), or NEXT; NONE.");
        PaneStreet x = fullStreet();
        due("round", round(x, 0, false, 7), 1);
        due("used up", x.end(1), false);
        due("next", round(x, 0, true, 7), 7);
        due("used up", x.end(1), false);
        due("of the last walker", round(x, 5, true, 3, 0), 0);
        x.way(8, 0, false);
        x.way(8, 7, false);
        due("no round", round(x, 0, false, 7), -1);
        due("no next", round(x, 0, true, 7), -1);
        Check.indexes("round of walkers", 6, n -> x.round(n, false));
        due("no walker uses it up, too", round(x, 6, false, 7), "throws IndexOutOfBoundsException");
        due("used up", x.end(1), false);
        sentence("25", "IllegalArgumentException: the TAPE is not that (none may be told).");
        due("none told", round(x, 0, false), 0);
        due("none told, next", round(x, 0, true), -1);
        due("9 panes", round(x, 0, false, 0, 1, 2, 3, 4, 5, 6, 7, 8), REFUSED);
        due("used up", x.end(1), false);
        due("8 panes, one of them none", round(x, 0, false, 0, 1, 2, 3, 4, 5, 6, 9), REFUSED);
        due("8 panes, one of them twice", round(x, 0, true, 7, 1, 2, 3, 4, 5, 6, 7), REFUSED);
        due("8 panes", round(x, 0, true, 7, 1, 2, 3, 4, 5, 6, 0), -1);
    }

    private static void net() {
        PaneStreet x = fullStreet();
        sentence("26", "BEATS, as bits.");
        due("a ring of nine", x.beats(), 0b001001001);
        due("none", new PaneStreet().beats(), 0);
        sentence("27", "PARTS.");
        due("one", x.parts(), 1);
        due("none", new PaneStreet().parts(), 0);
        sentence("28", "BEND, as bits.");
        due("none", x.bend(), 0);
        x.way(0, 8, false);
        due("all but the ends", x.bend(), 0b011111110);
        sentence("29", "CLOSED; NONE.");
        due("one", x.closed(0, 8), 1);
        due("none of one", x.closed(8, 8), -1);
        Check.indexes("closed", 9, n -> x.closed(n, 0));
        Check.indexes("closed", 9, n -> x.closed(0, n));
        x.way(0, 8, true);
        due("two", x.closed(0, 8), 2);
    }

    private static void madeUp() {
        sentence("30", "MADE UP; NONE.");
        PaneStreet x = fullStreet();
        due("0", x.madeUp(), 0);
        Check.law(x, "cold 4");
        due("6", x.madeUp(), 6);
        Check.law(x, "cold 4;cold 1 if pane>4");
        due("none, by one pane of six", x.madeUp(), -1);
        due("nothing is told", x.likes(0, 1), 5);
        due("no act", x.count(12), 0);
    }

    private static Object whoLit(PaneStreet x, int... bytes) {
        Check.feed(x, bytes);
        return Check.answerOf(x::whoLit);
    }

    private static Object ask(PaneStreet x, int... bytes) {
        Check.feed(x, bytes);
        return Check.answerOf(x::ask);
    }

    private static void whoLitAndAsk() {
        sentence("31", "Uses the TAPE up: WHO LIT (of each two bytes: the PANE, how many HOURS;");
        PaneStreet x = fullStreet();
        due("the pane, then the hours", whoLit(x, 8, 1), 0b110000001);
        due("used up", x.end(1), false);
        due("the other way round", whoLit(x, 1, 8), 0x1ff);
        sentence("31", "IllegalArgumentException: the TAPE is not that (none may be told).");
        due("none told", whoLit(x), 0x1ff);
        due("pane 9", whoLit(x, 9, 1), REFUSED);
        due("used up", x.end(1), false);
        due("21 hours", whoLit(x, 8, 21), REFUSED);
        due("one byte", whoLit(x, 8), REFUSED);
        due("42 bytes", whoLit(x, new int[42]), REFUSED);

        sentence("32", "Uses the TAPE up: ASK (the TAPE likewise); NONE.");
        due("three places", ask(x, 8, 1), 0);
        due("used up", x.end(1), false);
        due("one place", ask(x, 8, 0), -1);
        due("none told", ask(x), 0);
        sentence("32", "IllegalArgumentException: the TAPE is not that.");
        due("pane 9", ask(x, 9, 1), REFUSED);
        due("used up", x.end(1), false);
        due("21 hours", ask(x, 8, 21), REFUSED);
        due("three bytes", ask(x, 8, 1, 8), REFUSED);
        due("42 bytes", ask(x, new int[42]), REFUSED);
        due("40 bytes", ask(x, new int[40]), -1);
    }

    private static void ringSidesPairs() {
        PaneStreet x = fullStreet();
        sentence("33", "RING.");
        Check.indexes("ring", 6, n -> x.ring(n));
        due("one without a taper", x.ring(0), false);
        sentence("34", "SIDES, as bits; NONE.");
        due("six", x.sides(), 0b000010);
        due("none", Check.streetOf("pane;walker at 0 taper 0").sides(), -1);
        sentence("35", "PAIRS: how much (walker NONE), or with whom one is; NONE.");
        due("how much", x.pairs(-1), 30);
        due("with whom", x.pairs(0) + " " + x.pairs(5), "1 4");
        Check.bounds("pairs", -1, 5, INDEX, n -> x.pairs(n));
        due("none", Check.streetOf("pane;walker at 0 taper 0").pairs(0), -1);
        due("nothing", new PaneStreet().pairs(-1), 0);
    }

    private static Object learnt(PaneStreet x, int... bytes) {
        Check.feed(x, bytes);
        return Check.answerOf(x::learnt);
    }

    private static void learntAndShare() {
        PaneStreet x = fullStreet();
        sentence("36", "Uses the TAPE up: LEARNT (of each three bytes: the WALKER, the PANE, 1 or 0;");
        x.like(1, 0, 2);
        due("the walker, the pane, lit", learnt(x, 1, 0, 1), 0b0000000110);
        due("used up", x.end(1), false);
        due("the last ones", learnt(x, 5, 4, 0), 0b1111000000);
        due("wrong ones", learnt(x, 6, 5, 0), REFUSED);
        due("used up", x.end(1), false);

        sentence("37", "SHARE: what a PANE has then.");
        due("the first has one", x.share(0, 1), 21);
        due("not the last", x.share(8, 1), 20);
        due("all have one", x.share(8, 9), 21);
        Check.indexes("share", 9, n -> x.share(n, 9));
        sentence("37", "IllegalArgumentException: N is none.");
        Check.bounds("share", 0, 999, ARGUMENT, n -> x.share(0, n));
        due("nothing was given", x.pane(0, 0), 20);
    }

    private static void restsAndOdds() {
        PaneStreet x = fullStreet();
        sentence("38", "RESTS, as bits.");
        x.like(0, 5, 7);
        x.like(5, 0, 7);
        due("both", x.rests(0, 5) + " " + x.rests(5, 0), "9 9");
        x.like(5, 0, 6);
        due("one of them", x.rests(0, 5) + " " + x.rests(5, 0), "8 8");
        sentence("38", "IllegalArgumentException: both are one.");
        unlike("rests", 6, n -> x.rests(0, n));
        unlike("rests", 6, n -> x.rests(n, 0));
        sentence("39", "ODDS.");
        PaneStreet f = Check.streetOf("fog 10");
        due("one of one", f.odds(1, 1), 1000);
        due("one of two", f.odds(2, 1), 1900);
        due("none of two", f.odds(2, 0), 10000);
        due("three of two", f.odds(2, 3), 0);
        sentence("39", "IllegalArgumentException: N or K are none.");
        Check.throwing("7 hours", ARGUMENT, () -> f.odds(7, 6));
        Check.throwing("7 of them", ARGUMENT, () -> f.odds(6, 7));
        Check.throwing("-1 hours", ARGUMENT, () -> f.odds(-1, 0));
        Check.throwing("-1 of them", ARGUMENT, () -> f.odds(0, -1));
        due("6 of 6", f.odds(6, 6), 0);
        due("0 of 0", f.odds(0, 0), 10000);
    }

    private static void sums() {
        PaneStreet none = new PaneStreet();
        PaneStreet x = fullStreet();
        x.strike(1);
        sentence("40", "BRIGHT, as bits.");
        due("the last", x.bright(), 0x100);
        due("none", none.bright(), 0);
        sentence("41", "GLOOM; NONE.");
        due("the first of all", x.gloom(), 0);
        due("none", none.gloom(), -1);
        sentence("42", "LAMPLIGHTER; NONE.");
        due("one", x.lamplighter(), 1);
        due("none", none.lamplighter(), -1);
        sentence("43", "SPENT, as bits.");
        due("two", x.spent(), 0b000011);
        due("none", none.spent(), 0);
        sentence("44", "CROWD; NONE.");
        due("the last", x.crowd(), 8);
        due("none", none.crowd(), -1);
        sentence("45", "ALIKE.");
        due("one pair", x.alike(), 1);
        due("none", none.alike(), 0);
    }

    private static void ahead() {
        sentence("46", "AHEAD by N HOURS of a PANE what 0 OIL, 1 1 if BURNING, 2 DARK.");
        PaneStreet x = Check.streetOf(lines("pane", 8) + ";pane oil 60 lit");
        due("oil by 0", x.ahead(8, 0, 0), 60);
        due("oil by 59", x.ahead(8, 59, 0), 1);
        due("burning by 59", x.ahead(8, 59, 1), 1);
        due("oil by 60", x.ahead(8, 60, 0), 0);
        due("burning by 60", x.ahead(8, 60, 1), 0);
        due("dark by 60", x.ahead(8, 60, 2), 1);
        due("dark of the first", x.ahead(0, 60, 2), 60);
        for (int what = 0; what <= 2; what++) {
            int asked = what;
            Check.indexes("ahead", 9, n -> x.ahead(n, 0, asked));
        }
        sentence("46", "IllegalArgumentException: N is none (0 to 60); NoSuchElementException: another what.");
        Check.bounds("ahead", 0, 60, ARGUMENT, n -> x.ahead(0, n, 2));
        whats("ahead", 0, 2, n -> x.ahead(0, 1, n));
    }

    private static void trialAndSpan() {
        sentence("47", "TRIAL: PANES, as bits (oil false), or OIL.");
        PaneStreet x = Check.streetOf("pane oil 4 lit;pane oil 6 lit");
        due("panes", x.trial(4, false), 0b10);
        due("oil", x.trial(4, true), 2);
        sentence("47", "IllegalArgumentException: N is none.");
        Check.bounds("trial", 0, 60, ARGUMENT, n -> x.trial(n, true));
        sentence("48", "SPAN: the least (most false), or the greatest.");
        due("now", x.span(0, false) + " " + x.span(0, true), "2 2");
        due("by 5", x.span(5, false) + " " + x.span(5, true), "1 1");
        PaneStreet f = Check.streetOf("pane;walker at 0 taper 1;fog 50", "pass if misty");
        due("one of six or none", f.span(1, false) + " " + f.span(1, true), "0 1");
        sentence("48", "IllegalArgumentException: N is none.");
        Check.bounds("span", 0, 60, ARGUMENT, n -> x.span(n, true));
    }

    private static void ledAndLog() {
        sentence("49", "LED: how many rows (night false), or the NIGHT; NONE.");
        PaneStreet x = fullStreet();
        Check.indexes("led, how many", 9, n -> x.led(n, false));
        Check.indexes("led, the night", 9, n -> x.led(n, true));
        due("none of the last", x.led(8, false) + " " + x.led(8, true), "0 -1");
        x.strike(5);
        due("one of the last", x.led(8, false) + " " + x.led(8, true), "1 0");

        sentence("50", "THE LOG so many ago (0 the latest) what 0 NIGHT, 1 HOUR, 2 0 to 3, 3 the PANE, 4 the WALKER "
            + "(NONE); - 2 without.");
        int[] row = {0, 0, 1, 8, 5};
        for (int what = 0; what <= 4; what++) {
            due("what " + what, x.log(0, what), row[what]);
            due("one too long ago, what " + what, x.log(1, what), -2);
            due("-1 ago, what " + what, x.log(-1, what), -2);
            due("the farthest ago, what " + what, x.log(Integer.MAX_VALUE, what), -2);
            due("the least ago, what " + what, x.log(Integer.MIN_VALUE, what), -2);
        }
        PaneStreet out = Check.streetOf("pane oil 1 lit;hour 23;night 999");
        out.hours(1);
        int[] burnt = {999, 23, 2, 0, -1};
        for (int what = 0; what <= 4; what++) {
            due("burnt out, what " + what, out.log(0, what), burnt[what]);
        }
        sentence("50", "NoSuchElementException: another what.");
        whats("log", 0, 4, n -> x.log(0, n));
        whats("log without a row", 0, 4, n -> x.log(-1, n));
    }

    private static void seed() {
        sentence("51", "SEED: what it was.");
        PaneStreet x = new PaneStreet();
        int was = 1;
        for (int seed : new int[] {0, -1, Integer.MAX_VALUE, Integer.MIN_VALUE, 7}) {
            due("told " + seed, x.seed(seed), was);
            was = seed;
        }
        due("no act", x.count(12), 0);
        x.seed(1);
        x.hours(1);
        due("one draw on", x.seed(0), 1103527590);
    }

    private static void undo() {
        sentence("52", "UNDONE: whether there was one.");
        PaneStreet x = Check.streetOf("pane");
        due("none", x.undo(), false);
        x.oil(0, 1);
        due("one", x.undo(), true);
        due("none more", x.undo(), false);
        x.seed(3);
        x.image();
        x.end(0);
        x.trial(5, true);
        due("these are no acts", x.undo(), false);
    }

    private static void imageAndBack() {
        sentence("53", "THE IMAGE is kept.");
        PaneStreet x = Check.streetOf("pane");
        x.image();
        x.oil(0, 1);
        due("gone back", x.back() + " " + x.pane(0, 0), "true 20");
        x.oil(0, 2);
        x.image();
        x.oil(0, 3);
        due("to the latest", x.back() + " " + x.pane(0, 0), "true 22");
        sentence("54", "One goes back to THE IMAGE: true; false, and nothing happens, if none was kept.");
        PaneStreet none = Check.streetOf("pane");
        none.oil(0, 1);
        due("none was kept", none.back(), false);
        due("nothing happens", none.pane(0, 0) + " " + none.count(12), "21 1");
        none.image();
        due("kept", none.back(), true);
        due("as often as one likes", none.back(), true);
    }

    private static void count() {
        sentence("55", "0 PANES, 1 WALKERS, 2 texts of THE STREET, 3 LINES of THE LAW (NONE without one), 4 HOUR, 5 "
            + "NIGHT, 6 FOG, 7 1 if there is "
            + "MIST, 8 OIL of all together, 9 LIT of all together, 10 WAYS (each once), 11 rows of THE LOG, 12 acts that "
            + "can be UNDONE.");
        PaneStreet x = fullStreet();
        int[] first = {9, 6, 3, -1, 0, 0, 0, 0, 180, 0, 9, 0, 0};
        for (int what = 0; what <= 12; what++) {
            due("what " + what, x.count(what), first[what]);
        }
        Check.law(x, "");
        due("a law of no line", x.count(3), 0);
        Check.street(x, "hour 22;night 8;fog 100");
        Check.law(x, "kind 1;pass if pane>8");
        x.hours(3);
        x.heads(0, 8);
        int[] then = {9, 6, 4, 2, 1, 9, 100, 1, 177, 1, 9, 1, 2};
        for (int what = 0; what <= 12; what++) {
            due("then, what " + what, x.count(what), then[what]);
        }
        due("99 each", Check.streetOf(lines("pane oil 99", 9)).count(8), 891);
        sentence("55", "NONE for another what.");
        for (int what : new int[] {Integer.MIN_VALUE, -1, 13, 32, Integer.MAX_VALUE}) {
            due("what " + what, x.count(what), PaneStreet.NONE);
        }
    }
}
