/** The edges of what is asked about lamps and ways, from CAN to TURN and FAVOURS. */
public final class QuestionEdgeTest {
    private static final String REFUSED = "throws IllegalArgumentException";

    private QuestionEdgeTest() {
    }

    public static void main(String[] args) {
        can();
        when();
        out();
        spoon();
        never();
        rounds();
        nextOfRounds();
        tapers();
        beats();
        partsAndBend();
        closed();
        why();
        madeUp();
        whoLit();
        ask();
        turn();
        favours();
        Check.end();
    }

    private static void sentence(String promises, String words) {
        Check.sentence(promises, words);
    }

    private static void due(String call, Object got, Object want) {
        Check.due(call, got, want);
    }

    private static String lines(String line, int times) {
        return (line + ";").repeat(times - 1) + line;
    }

    private static PaneStreet lineOfNine(String more) {
        PaneStreet x = Check.streetOf(lines("pane", 9));
        Check.street(x, "way 0 1;way 1 2;way 2 3;way 3 4;way 4 5;way 5 6;way 6 7;way 7 8");
        due("told: " + more, Check.street(x, more), 3);
        return x;
    }

    /** Nine panes, each with a way to all the others. */
    private static PaneStreet allWithAll() {
        PaneStreet x = Check.streetOf(lines("pane", 9));
        for (int pane = 0; pane < 9; pane++) {
            for (int other = pane + 1; other < 9; other++) {
                x.way(pane, other, true);
            }
        }
        return x;
    }

    private static void can() {
        sentence("7", "CAN of a PANE: WALKERS who would LIGHT it, if they were there now, as bits (0, if it is BURNING).");
        due("no walkers", Check.streetOf("pane").pane(0, 4), 0);
        due("one", Check.streetOf("pane;walker at 0 taper 1").pane(0, 4), 1);
        PaneStreet x = Check.streetOf("pane;pane;" + lines("walker at 1 taper 1", 6));
        due("all six, who are elsewhere", x.pane(0, 4), 0b111111);
        x.strike(5);
        due("the sixth has no taper now", x.pane(0, 4), 0b011111);
        due("burning", x.pane(1, 4), 0);
        PaneStreet own = Check.streetOf("pane;walker at 0 taper 1;walker at 0 taper 1 owns 0;walker at 0 taper 1");
        due("but for the owner", own.pane(0, 4), 0b101);
        PaneStreet now = Check.streetOf("pane;walker at 0 taper 1;hour 7", "pass if hour<8");
        due("not now", now.pane(0, 4), 0);
        Check.street(now, "hour 8");
        due("now", now.pane(0, 4), 1);
        PaneStreet mist = Check.streetOf("pane;walker at 0 taper 1;fog 100", "pass if misty");
        mist.hours(1);
        due("not in the mist that is now", mist.pane(0, 4), 0);
    }

    private static int whenDarkFor(int hours) {
        return Check.streetOf("pane;walker at 0 taper 1", "pass if dark<" + hours).pane(0, 5);
    }

    private static void when() {
        sentence("7", "WHEN of a PANE: the first N (0 to 60) AHEAD by which it is BURNING (0, if it is now); none.");
        due("now", Check.streetOf("pane oil 1 lit").pane(0, 5), 0);
        due("by 1", whenDarkFor(0), 1);
        due("by 2", whenDarkFor(1), 2);
        due("by 59", whenDarkFor(58), 59);
        due("by 60", whenDarkFor(59), 60);
        due("by 61", whenDarkFor(60), -1);
        due("never", Check.streetOf("pane").pane(0, 5), -1);
        due("lit and burnt out in one hour", Check.streetOf("pane oil 1;walker at 0 taper 1").pane(0, 5), -1);
        due("with oil for two", Check.streetOf("pane oil 2;walker at 0 taper 1").pane(0, 5), 1);
        PaneStreet fog = Check.streetOf("pane;pane;walker at 0 taper 1 heads 1;way 0 1;fog 100");
        due("without mist", fog.pane(1, 5), 1);
    }

    private static void out() {
        sentence("22", "OUT: the first N (0 to 60) AHEAD by which no LAMP is BURNING; none.");
        due("without panes", new PaneStreet().out(), 0);
        due("none burns", Check.streetOf("pane").out(), 0);
        for (int oil : new int[] {1, 2, 59, 60}) {
            due("by " + oil, Check.streetOf("pane oil " + oil + " lit").out(), oil);
        }
        due("by 61", Check.streetOf("pane oil 61 lit").out(), -1);
        due("the longest of two", Check.streetOf("pane oil 3 lit;pane oil 5 lit").out(), 5);
        due("the first of some", Check.streetOf("pane oil 3 lit;pane;walker at 1 taper 1", "pass if dark<5").out(), 3);
        due("none between", Check.streetOf("pane oil 3 lit;pane oil 4;walker at 1 taper 1", "pass if dark<2").out(), 6);
        due("he goes on without mist, and lights another one", Check.streetOf("pane oil 3 lit;pane;walker at 0 taper 1 "
            + "heads 1;way 0 1;"
            + "fog 100").out(), 20);
        due("lit as the other one burns out", Check.streetOf("pane oil 3 lit;pane oil 4;walker at 1 taper 1", "pass if dark<3").out(), 3);
    }

    private static void spoon() {
        sentence("23", "SPOON: the PANE with an OWNER whose DARK is 3 at least the first N (0 to 60) AHEAD (of several by one N "
            + "the least; none).");
        due("without panes", new PaneStreet().spoon(), -1);
        String owned = "pane oil 99;walker at 0 taper 0 owns 0;walker at 0 taper 1";
        due("dark 2 at most", Check.streetOf(owned, "pass if dark<2").spoon(), -1);
        due("dark 3", Check.streetOf(owned, "pass if dark<3").spoon(), 0);
        due("dark 4", Check.streetOf(owned, "pass if dark<4").spoon(), 0);
        due("without an owner", Check.streetOf("pane;walker at 0 taper 0").spoon(), -1);
        due("the last owned one", Check.streetOf("pane;pane;walker at 0 taper 0 owns 1").spoon(), 1);
        String two = ";walker at 0 taper 0 owns 0;walker at 0 taper 0 owns 1";
        due("both by one N", Check.streetOf("pane;pane" + two).spoon(), 0);
        due("who goes on without mist comes in time", Check.streetOf("pane;pane oil 99;walker at 0 taper 0 owns 1;"
            + "walker at 0 taper 1 heads 1;way 0 1;fog 100").spoon(), -1);
        due("not in time by three ways", Check.streetOf("pane;pane;pane;pane oil 99;walker at 0 taper 0 owns 3;"
            + "walker at 0 taper 1 heads 3;way 0 1;way 1 2;way 2 3;fog 100", "pass if pane<3").spoon(), -1);
        due("a way more is too late", Check.streetOf("pane;pane;pane;pane;pane oil 99;walker at 0 taper 0 owns 4;"
            + "walker at 0 taper 1 heads 4;way 0 1;way 1 2;way 2 3;way 3 4;fog 100", "pass if pane<4").spoon(), 4);
        due("both, as oil of 1 burns out in the first hour", Check.streetOf("pane oil 1 lit;pane" + two).spoon(), 0);
        due("the second is first", Check.streetOf("pane oil 2 lit;pane" + two).spoon(), 1);
        due("the first is first", Check.streetOf("pane;pane oil 2 lit" + two).spoon(), 0);
        PaneStreet now = Check.streetOf("pane oil 2 lit;pane" + two);
        now.hours(3);
        due("dark 2 and 3 now", now.pane(0, 3) + " " + now.pane(1, 3), "2 3");
        due("by 0", now.spoon(), 1);
        now.hours(1);
        due("dark 3 and 4 now", now.spoon(), 0);
        due("by 59", Check.streetOf("pane oil 57 lit;walker at 0 taper 0 owns 0").spoon(), 0);
        due("by 60", Check.streetOf("pane oil 58 lit;walker at 0 taper 0 owns 0").spoon(), 0);
        due("by 61", Check.streetOf("pane oil 59 lit;walker at 0 taper 0 owns 0").spoon(), -1);
    }

    private static void never() {
        sentence("24", "NEVER: PANES that nobody CAN light, not BURNING, as bits.");
        due("without panes", new PaneStreet().never(), 0);
        due("without walkers", Check.streetOf(lines("pane", 9)).never(), 0x1ff);
        due("but for what burns", Check.streetOf("pane lit;" + lines("pane", 7) + ";pane lit").never(), 0x0fe);
        due("one can light all", Check.streetOf(lines("pane", 9) + ";walker at 0 taper 1").never(), 0);
        due("but for his own", Check.streetOf(lines("pane", 9) + ";walker at 0 taper 1 owns 8").never(), 0x100);
        due("without oil", Check.streetOf("pane;pane oil 0;pane;walker at 0 taper 1").never(), 0b010);
    }

    private static Object round(PaneStreet x, int walker, boolean next, int... panes) {
        Check.feed(x, panes);
        Object got = Check.answerOf(() -> x.round(walker, next));
        due("the tape is used up", x.end(1), false);
        return got;
    }

    private static void rounds() {
        sentence("25", "ROUND of a WALKER and told PANES (bytes; at most 8, none twice): the fewest steps by WAYS from where he is "
            + "by which he is AT all of these, in whatever order (where he is already, by none); none;");
        PaneStreet x = lineOfNine("walker at 3 taper 0");
        due("none told", round(x, 0, false), 0);
        due("where he is", round(x, 0, false, 3), 0);
        due("beside him", round(x, 0, false, 4), 1);
        due("there and where he is", round(x, 0, false, 4, 3), 1);
        due("on both sides", round(x, 0, false, 4, 2), 3);
        due("the nearer end first", round(x, 0, false, 8, 0), 11);
        due("7 bytes", round(x, 0, false, 1, 2, 3, 4, 5, 6, 7), 2 + 6);
        due("8 bytes", round(x, 0, false, 0, 1, 2, 3, 4, 5, 6, 7), 3 + 7);
        due("8 bytes, told backwards", round(x, 0, false, 8, 7, 6, 5, 4, 3, 2, 1), 2 + 7);
        due("9 bytes", round(x, 0, false, 0, 1, 2, 3, 4, 5, 6, 7, 8), REFUSED);
        due("400 bytes", round(x, 0, false, new int[400]), REFUSED);
        due("twice", round(x, 0, false, 4, 4), REFUSED);
        due("the first and the last alike", round(x, 0, false, 0, 1, 2, 3, 4, 5, 6, 0), REFUSED);
        due("pane 8", round(x, 0, false, 8), 5);
        due("pane 9", round(x, 0, false, 9), REFUSED);
        due("a byte of 255", round(x, 0, false, 255), REFUSED);
        due("a byte of 128", round(x, 0, false, 3, 128), REFUSED);
        x.way(7, 8, false);
        due("one to which there is no far", round(x, 0, false, 8), -1);
        due("that, and others", round(x, 0, false, 3, 8), -1);
        PaneStreet all = allWithAll();
        Check.street(all, "walker at 8 taper 0");
        due("eight, one step each", round(all, 0, false, 0, 1, 2, 3, 4, 5, 6, 7), 8);
        due("seven, and where he is", round(all, 0, false, 1, 2, 3, 4, 5, 6, 7, 8), 7);
    }

    private static void nextOfRounds() {
        sentence("25", "NEXT: the first of these in the first such order (by the numbers of the PANES: by the first "
            + "unlike one, the "
            + "lesser); none without.");
        PaneStreet x = lineOfNine("walker at 3 taper 0");
        due("none told", round(x, 0, true), -1);
        due("where he is", round(x, 0, true, 3), 3);
        due("one", round(x, 0, true, 8), 8);
        due("the nearer end", round(x, 0, true, 8, 0), 0);
        due("the other nearer end", round(x, 0, true, 5, 0), 5);
        due("both as near: the lesser one", round(x, 0, true, 5, 1), 1);
        due("what is on the way", round(x, 0, true, 6, 5), 5);
        due("beside him, not the farther one of a lesser number", round(x, 0, true, 2, 1), 2);
        due("9 bytes", round(x, 0, true, 0, 1, 2, 3, 4, 5, 6, 7, 8), REFUSED);
        x.way(7, 8, false);
        due("without such a round", round(x, 0, true, 4, 8), -1);
        PaneStreet all = allWithAll();
        Check.street(all, "walker at 8 taper 0");
        due("all alike", round(all, 0, true, 7, 6, 5, 4, 3, 2, 1), 1);
    }

    private static void tapers() {
        sentence("8", "TAPERS of a WALKER: how many PANES to which he has a FAR (where he is, too) he would LIGHT, if he was there "
            + "now, with his TAPER (with 1, if it is 0).");
        for (int taper : new int[] {0, 1, 2, 99}) {
            PaneStreet x = lineOfNine("walker at 0 taper " + taper);
            due("all nine with a taper of " + taper, x.walker(0, 4), 9);
            Check.law(x, "pass if taper<1");
            due("the law never sees 0, but " + taper, x.walker(0, 4), 9);
            Check.law(x, "pass if taper<2");
            due("2 at least of " + taper, x.walker(0, 4), taper < 2 ? 0 : 9);
            Check.law(x, "pass if pane>0");
            due("where he is, too", x.walker(0, 4), 1);
        }
        PaneStreet x = lineOfNine("walker at 0 taper 3 owns 0;way 0 8");
        due("but for his own", x.walker(0, 4), 8);
        x.way(0, 8, false);
        x.way(0, 1, false);
        due("without a far", x.walker(0, 4), 0);
        PaneStreet dry = Check.streetOf("pane oil 0;pane lit;pane;walker at 0 taper 1;way 0 1;way 1 2");
        due("with oil, and not burning", dry.walker(0, 4), 1);
    }

    private static void beats() {
        sentence("26", "BEATS: sets of PANES at which WALKERS might stand so that each PANE is no farther than 1 WAY from "
            + "one of these: "
            + "the fewest: of several the least as bits (0 without PANES).");
        due("without panes", new PaneStreet().beats(), 0);
        due("one", Check.streetOf("pane").beats(), 1);
        due("two with a way", Check.streetOf("pane;pane;way 0 1").beats(), 0b01);
        due("two without", Check.streetOf("pane;pane").beats(), 0b11);
        due("three in a line", Check.streetOf("pane;pane;pane;way 0 1;way 1 2").beats(), 0b010);
        due("four in a line: 2 ways are too far", Check.streetOf("pane;pane;pane;pane;way 0 1;way 1 2;way 2 3").beats(), 0b0101);
        due("nine in a line", lineOfNine("").beats(), 0b010010010);
        due("nine without a way", Check.streetOf(lines("pane", 9)).beats(), 0x1ff);
        due("all with all", allWithAll().beats(), 1);
        PaneStreet star = Check.streetOf(lines("pane", 9));
        for (int pane = 0; pane < 8; pane++) {
            star.way(8, pane, true);
        }
        due("one of a great number is fewer than two of lesser ones", star.beats(), 0x100);
    }

    private static void partsAndBend() {
        sentence("27", "PARTS: into how many pieces the street falls by WAYS.");
        due("without panes", new PaneStreet().parts(), 0);
        due("one", Check.streetOf("pane").parts(), 1);
        PaneStreet x = Check.streetOf(lines("pane", 9));
        for (int pane = 0; pane < 8; pane++) {
            due("pieces", x.parts(), 9 - pane);
            x.way(pane, pane + 1, true);
        }
        due("one piece", x.parts(), 1);
        x.way(0, 8, true);
        due("one piece yet", x.parts(), 1);

        sentence("28", "BEND: PANES without which two others could not be reached from one another that can be, as bits.");
        due("a ring", x.bend(), 0);
        x.way(0, 8, false);
        due("a line", x.bend(), 0b011111110);
        due("without panes", new PaneStreet().bend(), 0);
        due("one", Check.streetOf("pane").bend(), 0);
        due("two", Check.streetOf("pane;pane;way 0 1").bend(), 0);
        due("three in a line", Check.streetOf("pane;pane;pane;way 0 1;way 1 2").bend(), 0b010);
        due("three, all with all", Check.streetOf("pane;pane;pane;way 0 1;way 1 2;way 0 2").bend(), 0);
        due("three without a way", Check.streetOf("pane;pane;pane").bend(), 0);
        due("two lines", Check.streetOf(lines("pane", 6) + ";way 0 1;way 1 2;way 3 4;way 4 5").bend(), 0b010010);
        due("a star at the last", Check.streetOf("pane;pane;pane;pane;way 3 0;way 3 1;way 3 2").bend(), 0b1000);
        due("a star at the first", Check.streetOf("pane;pane;pane;pane;way 0 3;way 0 1;way 0 2").bend(), 0b0001);
        due("all with all", allWithAll().bend(), 0);
    }

    private static void closed() {
        sentence("29", "CLOSED of two PANES: the fewest WAYS to be closed so that there is no FAR; none of one PANE; 0, "
            + "if there is none.");
        PaneStreet x = Check.streetOf(lines("pane", 9));
        due("one pane", x.closed(0, 0), -1);
        due("the last pane", x.closed(8, 8), -1);
        due("no far", x.closed(0, 8), 0);
        x.way(0, 8, true);
        due("one way", x.closed(0, 8), 1);
        for (int pane = 1; pane < 8; pane++) {
            x.way(0, pane, true);
            due("half a detour", x.closed(0, 8), pane);
            x.way(pane, 8, true);
            due("a whole one", x.closed(0, 8), pane + 1);
        }
        due("between", x.closed(3, 4), 2);
        due("all with all", allWithAll().closed(4, 8), 8);
        due("a line", lineOfNine("").closed(0, 8), 1);
    }

    private static void why() {
        sentence("7", "WHY of a PANE that is not BURNING: the WALKERS whose LIKES of its OWNER, told as 9, would let them "
            + "LIGHT it, if "
            + "they were there (those who CAN now, too), as bits; 0 without an OWNER.");
        PaneStreet x = Check.streetOf("pane;pane;walker at 1 taper 1 owns 0;walker at 1 taper 1;walker at 1 taper 0;"
            + "walker at 1 taper 99;"
            + "likes 1 0 0;likes 3 0 8");
        due("but for the owner, and for him who has no taper", x.pane(0, 6), 0b1010);
        due("without an owner", x.pane(1, 6), 0);
        Check.law(x, "cold 4");
        due("9 less 4", x.pane(0, 6), 0b1010);
        Check.law(x, "cold 5");
        due("9 less 5", x.pane(0, 6), 0);
        Check.law(x, "kind 1;cold 5");
        due("9 and 1 less 5", x.pane(0, 6), 0b1010);
        Check.law(x, "pass if likes<9");
        due("nobody passes by with 9", x.pane(0, 6), 0b1010);
        due("they are not told", x.likes(1, 0), 0);
        Check.law(x, "");
        due("none can now but 3", x.pane(0, 4), 0b1000);
        x.taper(2, 1);
        x.strike(1);
        due("pane 1 burns", x.pane(1, 6), 0);
        x.heads(2, 0);
        x.way(0, 1, true);
        x.hours(1);
        due("lit", x.pane(0, 1), 1);
        due("burning", x.pane(0, 6), 0);
        due("without oil", Check.streetOf("pane oil 0;walker at 0 taper 1 owns 0;walker at 0 taper 1").pane(0, 6), 0);
        PaneStreet ends = Check.streetOf("pane;pane;walker at 0 taper 1;walker at 0 taper 1;walker at 0 taper 1 owns 1;"
            + "walker at 0 taper 1;walker at 0 taper 1;walker at 0 taper 1");
        Check.law(ends, "cold 1");
        due("none of six can now", ends.pane(1, 4), 0);
        due("the first and the last with 9, too", ends.pane(1, 6), 0b111011);
        Check.law(ends, "pass if likes>8");
        due("those who can now, though 9 would keep them from it", ends.pane(1, 6), 0b111011);
        ends.like(0, 2, 9);
        due("with 9 he can not", ends.pane(1, 6), 0b111010);
    }

    private static void madeUp() {
        sentence("30", "MADE UP: the fewest pairs (LIKES of a WALKER of an OWNER) to be told as 9 (0 of them, if none is "
            + "needed) so that "
            + "each PANE with an OWNER that is not BURNING has somebody who CAN then; none, if no pairs do.");
        due("without panes", new PaneStreet().madeUp(), 0);
        due("without owners", Check.streetOf("pane;walker at 0 taper 0").madeUp(), 0);
        due("an owner alone", Check.streetOf("pane;walker at 0 taper 1 owns 0").madeUp(), -1);
        due("an owner alone, burning", Check.streetOf("pane lit;walker at 0 taper 1 owns 0").madeUp(), 0);
        PaneStreet x = Check.streetOf(lines("pane", 7));
        Check.street(x, "walker at 6 taper 1 owns 0;walker at 6 taper 1 owns 1;walker at 6 taper 1 owns 2;walker at 6 "
            + "taper 1 owns 3;"
            + "walker at 6 taper 1 owns 4;walker at 6 taper 1 owns 5");
        due("none is needed", x.madeUp(), 0);
        for (int panes = 1; panes <= 6; panes++) {
            Check.law(x, "cold 4 if pane<" + panes);
            due("for so many panes", x.madeUp(), panes);
            Check.law(x, "cold 5 if pane<" + panes);
            due("no pairs do", x.madeUp(), -1);
        }
        Check.law(x, "cold 4");
        x.like(0, 1, 9);
        due("told as 9", x.madeUp(), 5);
        x.like(2, 3, 8);
        due("8 less 4 is too little", x.madeUp(), 5);
        due("one who likes all others needs none", Check.streetOf("pane;pane;walker at 0 taper 1;walker at 0 taper 0 owns 0;"
            + "walker at 0 taper 0 owns 1").madeUp(), 0);
        due("without tapers", Check.streetOf("pane;walker at 0 taper 0;walker at 0 taper 0 owns 0").madeUp(), -1);
        due("without oil", Check.streetOf("pane oil 0;walker at 0 taper 1;walker at 0 taper 0 owns 0").madeUp(), -1);
    }

    private static Object whoLit(PaneStreet x, int... rows) {
        Check.feed(x, rows);
        Object got = Check.answerOf(x::whoLit);
        due("the tape is used up", x.end(1), false);
        return got;
    }

    private static int[] pairs(int times, int pane, int hours) {
        int[] bytes = new int[2 * times];
        for (int i = 0; i < times; i++) {
            bytes[2 * i] = pane;
            bytes[2 * i + 1] = hours;
        }
        return bytes;
    }

    private static void whoLit() {
        sentence("31", "WHO LIT: told are rows: a PANE and how many HOURS ago it was lit (0 to 20), all by one WALKER, "
            + "who makes one step by "
            + "a WAY or stays each HOUR:");
        PaneStreet x = lineOfNine("");
        due("0", whoLit(x, 0, 0), 0b1);
        due("1", whoLit(x, 0, 1), 0b11);
        due("2", whoLit(x, 0, 2), 0b111);
        due("7", whoLit(x, 0, 7), 0b011111111);
        due("8", whoLit(x, 0, 8), 0x1ff);
        due("19", whoLit(x, 0, 19), 0x1ff);
        due("20", whoLit(x, 0, 20), 0x1ff);
        due("21", whoLit(x, 0, 21), REFUSED);
        due("255", whoLit(x, 0, 255), REFUSED);
        due("20 and 19 of the farthest ones", whoLit(x, 0, 20, 8, 12), 0x1ff);
        due("pane 8", whoLit(x, 8, 0), 0x100);
        due("pane 9", whoLit(x, 9, 0), REFUSED);
        due("pane 255", whoLit(x, 0, 0, 255, 0), REFUSED);

        sentence("31", "PLACES where he may be now: PANES to which there is such a walk (begun anywhere) that is AT each "
            + "told PANE so many "
            + "HOURS ago (of all walks; rows of like HOURS with unlike PANES: none), as bits; none told: all PANES.");
        due("none told", whoLit(x), 0x1ff);
        due("none told, without panes", whoLit(new PaneStreet()), 0);
        due("told, without panes", whoLit(new PaneStreet(), 0, 0), REFUSED);
        due("8 ways in 8 hours", whoLit(x, 0, 8, 8, 0), 0x100);
        due("8 ways in 7 hours", whoLit(x, 0, 7, 8, 0), 0);
        due("8 ways in 9 hours", whoLit(x, 0, 9, 8, 0), 0x100);
        due("from 20 hours ago on", whoLit(x, 0, 20, 8, 12, 0, 4, 4, 0), 0x010);
        due("that is too far by one hour", whoLit(x, 0, 20, 8, 13, 0, 4), 0);
        due("like hours, unlike panes", whoLit(x, 0, 3, 1, 3), 0);
        due("like hours, like panes", whoLit(x, 0, 3, 0, 3), 0b1111);
        due("unlike panes now", whoLit(x, 0, 0, 1, 0), 0);
        due("unlike panes 20 hours ago", whoLit(x, 0, 20, 1, 20), 0);
        due("the order is no matter", whoLit(x, 4, 0, 0, 4), 0x010);
        due("nor is it the other way round", whoLit(x, 0, 4, 4, 0), 0x010);
        x.way(7, 8, false);
        due("no way", whoLit(x, 8, 20), 0x100);

        sentence("31", "at most 40 bytes): PLACES, as bits.");
        due("38 bytes", whoLit(x, pairs(19, 3, 1)), 0b11100);
        due("39 bytes", whoLit(x, new int[39]), REFUSED);
        due("40 bytes", whoLit(x, pairs(20, 3, 1)), 0b11100);
        due("41 bytes", whoLit(x, new int[41]), REFUSED);
        due("42 bytes", whoLit(x, pairs(21, 3, 1)), REFUSED);
        due("1 byte", whoLit(x, 0), REFUSED);
        due("3 bytes", whoLit(x, 0, 0, 0), REFUSED);
        due("400 bytes", whoLit(x, new int[400]), REFUSED);
        int[] last = pairs(20, 3, 1);
        last[38] = 5;
        last[39] = 0;
        due("the last row counts", whoLit(x, last), 0);
    }

    private static Object ask(PaneStreet x, int... rows) {
        Check.feed(x, rows);
        Object got = Check.answerOf(x::ask);
        due("the tape is used up", x.end(1), false);
        return got;
    }

    private static void ask() {
        sentence("32", "ASK: the PANE (of all) for which those PLACES are parted, by FAR from it (none is one part, too), "
            + "so that the "
            + "greatest part is the least (of several the least; none with fewer than two).");
        PaneStreet x = lineOfNine("");
        due("nine places", ask(x), 0);
        due("one place", ask(x, 4, 0), -1);
        due("no place", ask(x, 4, 0, 5, 0), -1);
        due("two places", ask(x, 0, 1), 0);
        due("three places, of several the least", ask(x, 4, 1), 0);
        due("no panes", ask(new PaneStreet()), -1);
        due("one pane", ask(Check.streetOf("pane")), -1);
        due("two panes", ask(Check.streetOf("pane;pane")), 0);
        due("three panes, all alike", ask(Check.streetOf("pane;pane;pane")), 0);
        PaneStreet star = Check.streetOf("pane;pane;pane;pane;way 0 1;way 0 2;way 0 3");
        due("two parts of 1 and one of 2 are less than one of 3", ask(star), 1);
        PaneStreet alone = Check.streetOf("pane;pane;pane;pane;pane;way 3 4");
        due("none is one part: of 3, not of 4", ask(alone), 3);
        PaneStreet outside = Check.streetOf("pane;pane;pane;way 0 1;way 1 2");
        due("of all panes, not of the places alone", ask(outside, 1, 1, 1, 1), 0);
        PaneStreet other = Check.streetOf("pane;pane;pane;pane;way 1 2;way 2 3;way 3 0");
        due("an end that parts all is the least", ask(other, 2, 1), 0);
        due("41 bytes", ask(x, new int[41]), REFUSED);
        due("40 bytes", ask(x, pairs(20, 0, 1)), 0);
        due("42 bytes", ask(x, pairs(21, 0, 1)), REFUSED);
        due("21 hours", ask(x, 0, 21), REFUSED);
        due("20 hours", ask(x, 0, 20), 0);
        due("pane 9", ask(x, 9, 0), REFUSED);
    }

    private static void turn() {
        sentence("8", "TURN of a WALKER: of PANES of other OWNERS the one that he would LIGHT now, whose OWNER would "
            + "LIGHT a PANE of his, if "
            + "LIKES of that one were 1 more (9 at most), of the least FAR from where he is (there must be one; of "
            + "several the least "
            + "PANE; none without).");
        String two = "pane;pane;walker at 0 taper 1 owns 0;walker at 0 taper 1 owns 1;way 0 1";
        PaneStreet x = Check.streetOf(two);
        for (int likes = 0; likes <= 9; likes++) {
            x.like(1, 0, likes);
            due("likes of " + likes + " and 1", x.walker(0, 5), likes >= 4 ? 1 : -1);
        }
        x.like(1, 0, 5);
        for (int likes = 4; likes <= 6; likes++) {
            x.like(0, 1, likes);
            due("his own likes of " + likes, x.walker(0, 5), likes >= 5 ? 1 : -1);
        }
        x.like(0, 1, 5);
        Check.law(x, "pass if walker>0 and likes<9");
        for (int likes = 7; likes <= 9; likes++) {
            x.like(1, 0, likes);
            due("9 by likes of " + likes, x.walker(0, 5), likes >= 8 ? 1 : -1);
        }
        Check.law(x, "pass if likes>9");
        due("9 at most", x.walker(0, 5), 1);
        Check.law(x, "pass if walker>0 and likes>8");
        due("9 at most is 9", x.walker(0, 5), -1);
        Check.law(x, "");
        x.way(0, 1, false);
        due("no far", x.walker(0, 5), -1);
        due("where he is", x.walker(1, 5), 0);
        due("no owner", Check.streetOf("pane;pane;walker at 0 taper 1 owns 0;way 0 1").walker(0, 5), -1);
        due("he owns none", Check.streetOf("pane;walker at 0 taper 1;walker at 0 taper 1 owns 0").walker(0, 5), -1);
        due("without a taper", Check.streetOf("pane;pane;walker at 0 taper 0 owns 0;walker at 0 taper 1 owns 1;way 0 1").walker(0, 5), -1);
        due("its owner without a taper", Check.streetOf("pane;pane;walker at 0 taper 1 owns 0;walker at 0 taper 0 owns 1;way 0 1")
            .walker(0, 5), -1);
        PaneStreet nine = lineOfNine("walker at 8 taper 1 owns 8;walker at 8 taper 1 owns 0;walker at 8 taper 1 owns 1");
        due("the nearest", nine.walker(0, 5), 1);
        nine.like(0, 2, 0);
        due("at the far end", nine.walker(0, 5), 0);
        nine.like(0, 1, 0);
        due("none", nine.walker(0, 5), -1);
        PaneStreet both = Check.streetOf("pane;pane;pane;walker at 1 taper 1 owns 1;walker at 0 taper 1 owns 2;walker at "
            + "0 taper 1 owns 0;"
            + "way 1 0;way 1 2");
        due("of several the least", both.walker(0, 5), 0);
    }

    private static String rings(PaneStreet x) {
        StringBuilder all = new StringBuilder();
        for (int walker = 0; walker < x.count(1); walker++) {
            all.append(x.ring(walker) ? 1 : 0);
        }
        return all.toString();
    }

    /** Walkers who each own the pane of their number, and stand where they are told. */
    private static PaneStreet standing(int... at) {
        StringBuilder text = new StringBuilder(lines("pane", at.length));
        for (int walker = 0; walker < at.length; walker++) {
            text.append(";walker at ").append(at[walker]).append(" taper 1 owns ").append(walker);
        }
        return Check.streetOf(text.toString());
    }

    private static void favours() {
        sentence("33", "FAVOURS: WALKERS pointing each to the OWNER of his TURN (or to nobody): RING of one: whether by "
            + "pointing on and on "
            + "one comes back to him.");
        due("one alone points to nobody", rings(standing(0)), "0");
        due("two to one another", rings(standing(1, 0)), "11");
        due("one to the other one, who points to nobody", rings(standing(1, 1)), "00");
        due("a ring of six", rings(standing(1, 2, 3, 4, 5, 0)), "111111");
        due("a ring of five, and one who points to it", rings(standing(1, 2, 3, 4, 0, 0)), "111110");
        due("a ring of two at the end", rings(standing(1, 2, 3, 4, 5, 4)), "000011");
        due("three rings of two", rings(standing(1, 0, 3, 2, 5, 4)), "111111");
        due("a line to nobody", rings(standing(1, 2, 3, 4, 5, 5)), "000000");
        PaneStreet broken = standing(1, 2, 3, 4, 5, 0);
        broken.like(2, 3, 4);
        due("a ring that is broken", rings(broken), "000000");
    }
}
