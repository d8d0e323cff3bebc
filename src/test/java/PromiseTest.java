import java.util.NoSuchElementException;

/** The promises one by one, by examples worked out by hand. */
public final class PromiseTest {
    private static final Class<IndexOutOfBoundsException> INDEX = IndexOutOfBoundsException.class;
    private static final Class<IllegalArgumentException> ARGUMENT = IllegalArgumentException.class;
    private static final Class<IllegalStateException> STATE = IllegalStateException.class;
    private static final Class<NoSuchElementException> NO_ELEMENT = NoSuchElementException.class;

    /** Four panes in a line, 0 - 1 - 2 - 3; walker 0 owns 0, walker 1 owns 2, walker 2 owns 3. */
    private static final String LINE = "pane oil 5;pane oil 3 lit;pane;pane;walker at 0 taper 2 owns 0 heads 3;"
        + "walker at 3 taper 0 owns 2;walker at 2 taper 1 owns 3;way 0 1;way 1 2;way 2 3;likes 0 1 4;likes 2 0 7;hour 22";
    /** Two panes with a way, each walker at the other one's. */
    private static final String TWO = "pane oil 9;pane oil 9;walker at 1 taper 3 owns 0;walker at 0 taper 3 owns 1;way 0 1";
    private static final String RING_OF_FOUR = "pane;pane;pane;pane;way 0 1;way 1 2;way 2 3;way 3 0";

    private PromiseTest() {
    }

    public static void main(String[] args) {
        newObject();
        tape();
        streetTexts();
        streetFaults();
        lawTexts();
        lawFaults();
        conditions();
        panes();
        walkers();
        hours();
        fogs();
        acts();
        ways();
        rounds();
        places();
        favours();
        sidesAndPairs();
        learnt();
        shareRestsOdds();
        sums();
        foresight();
        logs();
        undone();
        images();
        counts();
        Check.end();
    }

    private static void due(String call, Object got, Object want) {
        Check.due(call, got, want);
    }

    private static Object street(PaneStreet x, String text) {
        return Check.street(x, text);
    }

    private static Object law(PaneStreet x, String text) {
        return Check.law(x, text);
    }

    private static void newObject() {
        Check.begin("1 a new object");
        PaneStreet x = new PaneStreet();
        for (int what : new int[] {0, 1, 2, 4, 5, 6, 7, 8, 9, 10, 11, 12}) {
            due("count(" + what + ")", x.count(what), 0);
        }
        due("count(3)", x.count(3), -1);
        due("seed", x.seed(1), 1);
        due("fault", x.fault(), -1);
        due("NONE", PaneStreet.NONE, -1);
        Check.throwing("pane", INDEX, () -> x.pane(0, 0));
        Check.throwing("walker", INDEX, () -> x.walker(0, 0));
    }

    private static void tape() {
        Check.begin("2 feed");
        PaneStreet x = new PaneStreet();
        for (int i = 1; i <= 20; i++) {
            due("feed " + i, x.feed(0x20202020, 0x20202020, 0x20202020, 0x20202020, 0x20202020), 20 * i);
        }
        due("feed too much", x.feed(0, 0, 0, 0, 0), -1);
        due("none came", x.end(401), false);
        due("all are there", x.end(400), true);
        due("381", x.end(381), true);
        due("feed 401", x.feed(0, 0, 0, 0, 0), -1);
        due("380", x.end(380), true);
        due("feed 400", x.feed(0, 0, 0, 0, 0), 400);
        due("zeros are no blanks", Check.answerOf(x::street), "throws IllegalArgumentException");
        due("the first of them", x.fault(), 380);
        due("highest first", x.feed(0x666f6720, 0x37377878, 0, 0, 0), 20);
        due("its six bytes", x.end(6), true);
        due("street", x.street(), 1);
        due("fog", x.count(6), 77);

        Check.begin("3 end");
        due("of an empty tape", x.end(0), true);
        due("more than there are", x.end(1), false);
        due("below 0", x.end(-1), false);
        x.feed(0x666f6720, 0x31323300, 0, 0, 0);
        due("6", x.end(6), true);
        due("7 of 6", x.end(7), false);
        due("below 0 again", x.end(Integer.MIN_VALUE), false);
        due("nothing happened", x.street(), 2);
        due("fog 12", x.count(6), 12);
        due("the tape is used up", x.end(1), false);
        Check.feed(x, "fog 1234");
        Check.throwing("street", ARGUMENT, x::street);
        due("used up by a wrong text, too", x.end(1), false);
    }

    private static void streetTexts() {
        Check.begin("4 street");
        PaneStreet x = new PaneStreet();
        due("of blanks", street(x, "   "), 1);
        due("empty", street(x, ""), 2);
        due("panes", street(x, " pane ;pane oil 7;pane oil07lit ; pane lit"), 3);
        due("four", x.count(0), 4);
        due("oil at first", x.pane(0, 0), 20);
        due("oil 7", x.pane(1, 0), 7);
        due("oil 07", x.pane(2, 0), 7);
        due("lit", x.bright(), 0b1100);
        due("walkers", street(x, "walker at 3taper 99owns 0heads 3;walker at 0 taper 0;way 0 1;way 1 0;fog 100;night 999"), 4);
        due("at", x.walker(0, 0), 3);
        due("taper", x.walker(0, 1), 99);
        due("owner", x.pane(0, 2), 0);
        due("heads", x.walker(0, 2), 3);
        due("no heads", x.walker(1, 2), -1);
        due("a way once", x.count(10), 1);
        due("fog", x.count(6), 100);
        due("night", x.count(5), 999);
        due("likes at first", x.likes(0, 1), 5);
        due("likes", street(x, "likes 1 0 9;likes 1 0 8;hour 23"), 5);
        due("the latest", x.likes(1, 0), 8);
        due("one way alone", x.likes(0, 1), 5);
        due("hour", x.count(4), 23);
        due("14 lines", street(x, "fog 1" + ";fog 2".repeat(13)), 6);
        for (int i = 7; i <= 12; i++) {
            due("text " + i, street(x, "fog 3"), i);
        }
        due("a wrong 13th", street(x, "fog 4;fog"), "throws IllegalArgumentException");
        due("its fault", x.fault(), 9);
        due("a right 13th", street(x, "fog 4"), "throws UnsupportedOperationException");
        due("it was read", x.fault(), -1);
        due("nothing of it stays", x.count(6), 3);
        due("texts", x.count(2), 12);
        due("a text lit is no row of the log", x.count(11), 0);
    }

    private static void fault(String text, int at) {
        PaneStreet x = new PaneStreet();
        due("'" + text + "'", street(x, text), "throws IllegalArgumentException");
        due("fault of '" + text + "'", x.fault(), at);
        due("nothing stays of '" + text + "'", x.count(0) + x.count(1) + x.count(2) + x.count(6), 0);
    }

    private static void streetFaults() {
        Check.begin("6 fault");
        fault("x", 0);
        fault(" ;pane", 1);
        fault("pane;", 5);
        fault("pane; ", 6);
        fault("pane;;", 5);
        fault("Pane", 0);
        fault("panes", 0);
        fault("panez", 0);
        fault("apane", 0);
        fault("pane`", 4);
        fault("pane{", 4);
        fault("fog :", 4);
        fault("fog /", 4);
        fault("pane\t", 4);
        fault("pane oil", 8);
        fault("pane oil 1000", 9);
        fault("pane oil 0100", 9);
        fault("pane oil 100", 9);
        fault("pane oil 0 lit", 11);
        fault("pane lit oil 3", 9);
        fault("pane lit lit", 9);
        fault("pane 1", 5);
        fault("pane pane", 5);
        fault("walker at 0 taper 1", 10);
        fault("pane;walker 0", 12);
        fault("pane;walker at 0", 16);
        fault("pane;walker at 0 owns 0", 17);
        fault("pane;walker at 0 taper 100", 23);
        fault("pane;walker at 0 taper 1 owns 1", 30);
        fault("pane;walker at 0 taper 1 owns 0;walker at 0 taper 1 owns 0", 57);
        fault("pane;walker at 0 taper 1 heads 1", 31);
        fault("pane;walker at 0 taper 1 heads 0 owns 0", 33);
        fault("pane;way 0 0", 11);
        fault("pane;pane;way 0 2", 16);
        fault("pane;pane;way 2 0", 14);
        fault("pane;pane;way 01", 16);
        fault("pane;pane;way 0 1 1", 18);
        fault("pane;pane;way 0 1;way 1 1;x", 24);
        fault("likes 0 1 5", 6);
        fault("pane;walker at 0 taper 1;walker at 0 taper 1;likes 0 0 1", 53);
        fault("pane;walker at 0 taper 1;walker at 0 taper 1;likes 0 1 10", 55);
        fault("pane;walker at 0 taper 1;walker at 0 taper 1;likes 0 2 1", 53);
        fault("fog 101", 4);
        fault("fog -1", 4);
        fault("hour 24", 5);
        fault("night 1000", 6);
        fault("kind 3", 0);
        fault("pane" + (char) 233, 4);
        String nine = "pane;".repeat(9);
        fault(nine + "pane", 45);
        fault(nine + "pane oil 100", 45);
        String six = "pane" + ";walker at 0 taper 1".repeat(6);
        fault(six + ";walker at 0", six.length() + 1);
        String fourteen = "fog 1" + ";fog 2".repeat(13);
        fault(fourteen + "; fog 3", fourteen.length() + 2);
        fault(fourteen + ";x", fourteen.length() + 1);
        fault(fourteen + "; ", fourteen.length() + 2);
        PaneStreet x = new PaneStreet();
        street(x, "fog");
        due("a fault", x.fault(), 3);
        law(x, "");
        due("of the latest text", x.fault(), -1);
        street(x, "fog 1 1");
        x.undo();
        x.image();
        x.back();
        due("it stays", x.fault(), 6);
    }

    private static void lawTexts() {
        Check.begin("5 law");
        PaneStreet x = Check.streetOf(TWO);
        due("none", x.count(3), -1);
        due("empty", law(x, " "), 0);
        due("no lines", x.count(3), 0);
        due("three", law(x, "kind 20;cold 0 if owned;pass"), 3);
        due("lines", x.count(3), 3);
        due("all pass by", x.lights(0, 1), false);
        due("will", x.will(0, 1), 25);
        due("a wrong one", law(x, "pass if"), "throws IllegalArgumentException");
        due("the one before stays", x.count(3), 3);
        due("in its place", law(x, "cold 20"), 1);
        due("below 0, too", x.will(0, 1), -15);
        due("12 lines", law(x, "pass" + ";pass".repeat(11)), 12);
        due("13 lines", law(x, "pass" + ";pass".repeat(12)), "throws IllegalArgumentException");
        due("the first word", x.fault(), 60);
        due("12 lines stay", x.count(3), 12);
    }

    private static void lawFault(String text, int at) {
        PaneStreet x = new PaneStreet();
        due("'" + text + "'", law(x, text), "throws IllegalArgumentException");
        due("fault of '" + text + "'", x.fault(), at);
        due("nothing stays of '" + text + "'", x.count(3), -1);
    }

    private static void lawFaults() {
        Check.begin("5 and 6, faults of the law");
        lawFault("pane", 0);
        lawFault("kind", 4);
        lawFault("kind x", 5);
        lawFault("kind 21", 5);
        lawFault("cold 0001", 5);
        lawFault("kind 3 3", 7);
        lawFault("pass 1", 5);
        lawFault("pass;", 5);
        lawFault("pass if", 7);
        lawFault("pass if if", 8);
        lawFault("pass ifowned", 5);
        lawFault("pass if own", 8);
        lawFault("pass if owned misty", 14);
        lawFault("pass if owned or", 16);
        lawFault("pass if owned and ;", 18);
        lawFault("pass if misty<2", 13);
        lawFault("pass if oil", 11);
        lawFault("pass if oil;", 11);
        lawFault("pass if oil<", 12);
        lawFault("pass if oil<<3", 12);
        lawFault("pass if oil<3<4", 13);
        lawFault("pass if oil+<3", 12);
        lawFault("pass if +3<4", 8);
        lawFault("pass if 1+owned<3", 10);
        lawFault("pass if 1<misty", 10);
        lawFault("pass if owned+1<3", 13);
        lawFault("pass if 1000<3", 8);
        lawFault("pass if 3<0999", 10);
        lawFault("pass if (owned", 14);
        lawFault("pass if (owned;", 14);
        lawFault("pass if owned)", 13);
        lawFault("pass if ()", 9);
        lawFault("pass if (1+2)<3", 12);
        lawFault("pass if not", 11);
        lawFault("pass if not not not not not not not owned", 32);
        lawFault("pass if (((((((owned)))))))", 14);
        lawFault("pass if (not(not(not(owned", 20);
        lawFault("pass if ((not(not(not owned", 18);
        lawFault("pass if not((((((owned", 16);
        PaneStreet x = new PaneStreet();
        due("six deep", law(x, "pass if ((((((owned))))))and not not not not not not owned or not(not(not(not 1>2))and 3<4)"), "throws IllegalArgumentException");
        due("seven deep at last", x.fault(), 8 + 66);
        due("six deep, again and again", law(x, "pass if ((((((owned))))))and not not not not not not owned or "
            + "not(not(not(owned)))"), 1);
        StringBuilder longest = new StringBuilder("pass if 1");
        while (longest.length() < 396) {
            longest.append("+1");
        }
        due("a long sum", law(x, longest + "<1"), 1);
    }

    /** Whether a condition holds of walker 0 and pane 1 of TWO, after an hour in which nothing is lit. */
    private static void holds(String condition, boolean is) {
        PaneStreet x = Check.streetOf(TWO + ";hour 7", "pass");
        x.hours(1);
        Check.feed(x, "kind 7 if " + condition);
        x.law();
        due(condition, x.will(0, 1), is ? 12 : 5);
    }

    private static void conditions() {
        Check.begin("10 will");
        holds("owned", true);
        holds("misty", false);
        holds("not misty", true);
        holds("oil<10 and oil>8", true);
        holds("oil<9", false);
        holds("oil>9", false);
        holds("dark>0 and dark<2", true);
        holds("taper<4 and taper>2", true);
        holds("likes<6 and likes>4", true);
        holds("hour<9 and hour>7", true);
        holds("walker<1", true);
        holds("pane<1", false);
        holds("pane>0 and pane<2", true);
        holds("1+2+3>5", true);
        holds("1+2+3<7", true);
        holds("1+2+3>6", false);
        holds("0<pane+walker", true);
        holds("misty and owned or owned", true);
        holds("owned or owned and misty", true);
        holds("(owned or owned) and misty", false);
        holds("misty and (owned or owned)", false);
        holds("not misty and misty", false);
        holds("not (misty and misty)", true);
        holds("not misty or misty", true);
        holds("not owned or owned", true);
        holds("not not owned", true);
        holds("misty or misty or owned", true);
        holds("owned and owned and misty", false);
        holds("999>998", true);

        PaneStreet x = Check.streetOf(LINE);
        due("likes of the owner", x.will(0, 2), 4);
        due("of his own", x.will(0, 0), 5);
        due("without an owner", x.will(2, 1), 5);
        Check.throwing("no walker", INDEX, () -> x.will(3, 0));
        Check.throwing("no pane", INDEX, () -> x.will(0, 4));
        law(x, "kind 3;kind 4 if owned;cold 2;cold 1 if pane>1;pass");
        due("3 and 4 less 2 and 1", x.will(0, 2), 8);
        due("3 less 2", x.will(0, 1), 6);
        law(x, "kind 1 if likes>6;kind 2 if not owned");
        due("likes 7", x.will(2, 0), 8);
        due("likes 5 without an owner", x.will(2, 1), 7);
        law(x, "kind 1 if walker>1;kind 2 if walker<1");
        due("walker 2", x.will(2, 1), 6);
        due("walker 1", x.will(1, 1), 5);
        due("walker 0", x.will(0, 1), 7);

        Check.begin("11 lights");
        law(x, "");
        due("likes 5", x.lights(0, 3), true);
        due("likes 4", x.lights(0, 2), false);
        due("burning", x.lights(0, 1), false);
        due("his own", x.lights(0, 0), false);
        due("without a taper", x.lights(1, 0), false);
        law(x, "pass if pane>2");
        due("goes by", x.lights(0, 3), false);
        due("does not go by", x.lights(2, 2), true);
        law(x, "kind 1 if pane<3");
        due("a will of 5", x.lights(0, 2), true);
        PaneStreet dry = Check.streetOf("pane oil 0;walker at 0 taper 1;walker at 0 taper 1");
        due("without oil", dry.lights(0, 0), false);
        dry.oil(0, 1);
        due("with oil", dry.lights(0, 0), true);
        Check.throwing("no walker", INDEX, () -> dry.lights(-1, 0));
        Check.throwing("no pane", INDEX, () -> dry.lights(0, 1));
    }

    private static void panes() {
        Check.begin("7 pane");
        PaneStreet x = Check.streetOf(LINE);
        due("oil", x.pane(1, 0), 3);
        due("burning", x.pane(1, 1), 1);
        due("not burning", x.pane(0, 1), 0);
        due("owner", x.pane(2, 2), 1);
        due("no owner", x.pane(1, 2), -1);
        due("dark", x.pane(0, 3), 0);
        due("can", x.pane(2, 4), 0b100);
        due("can of a burning one", x.pane(1, 4), 0);
        due("when", x.pane(3, 5), 3);
        due("when now", x.pane(1, 5), 0);
        due("when never", x.pane(0, 5), -1);
        due("why", x.pane(2, 6), 0b101);
        due("why of a burning one", x.pane(1, 6), 0);
        due("lasts", x.pane(1, 7), 3);
        due("lasts not", x.pane(0, 7), 0);
        Check.throwing("8", NO_ELEMENT, () -> x.pane(0, 8));
        Check.throwing("-1", NO_ELEMENT, () -> x.pane(0, -1));
        Check.throwing("no pane", INDEX, () -> x.pane(4, 8));
        Check.throwing("below", INDEX, () -> x.pane(-1, 0));
        law(x, "pass if likes>8");
        due("who can now, too", x.pane(3, 6), 0b001);
        law(x, "cold 4 if likes>0");
        due("9 less 4", x.pane(3, 6), 0b001);
        due("nobody can", x.pane(3, 4), 0);
        law(x, "cold 5");
        due("nobody would", x.pane(3, 6), 0);
        PaneStreet nobodys = Check.streetOf("pane;walker at 0 taper 1");
        due("why without an owner", nobodys.pane(0, 6), 0);
        due("can without an owner", nobodys.pane(0, 4), 1);
        due("when in an hour", nobodys.pane(0, 5), 1);
        PaneStreet brief = Check.streetOf("pane oil 1;walker at 0 taper 9");
        due("burnt out within its hour", brief.pane(0, 5), -1);
        PaneStreet late = Check.streetOf("pane;walker at 0 taper 1;hour 0;night 0", "pass if hour<23");
        due("when the law lets him", late.pane(0, 5), 24);
        law(late, "pass if dark<59");
        due("by the last hour", late.pane(0, 5), 60);
        law(late, "pass if dark<60");
        due("behind the last hour", late.pane(0, 5), -1);
    }

    private static void walkers() {
        Check.begin("8 walker");
        PaneStreet x = Check.streetOf(LINE);
        due("at", x.walker(0, 0), 0);
        due("taper", x.walker(0, 1), 2);
        due("heads", x.walker(0, 2), 3);
        due("heads to none", x.walker(1, 2), -1);
        due("lit", x.walker(0, 3), 0);
        due("tapers", x.walker(0, 4), 1);
        due("tapers with 1 for 0", x.walker(1, 4), 2);
        due("tapers above his taper", x.walker(2, 4), 2);
        due("turn", x.walker(0, 5), 3);
        due("turn of 2", x.walker(2, 5), 0);
        due("turn without a taper", x.walker(1, 5), -1);
        due("part", x.walker(0, 6), 0);
        Check.throwing("7", NO_ELEMENT, () -> x.walker(0, 7));
        Check.throwing("-1", NO_ELEMENT, () -> x.walker(0, -1));
        Check.throwing("no walker", INDEX, () -> x.walker(3, 7));
        Check.throwing("below", INDEX, () -> x.walker(-1, 0));
        x.way(1, 2, false);
        due("tapers near", x.walker(1, 4), 1);
        law(x, "pass if taper<1");
        due("the law sees a taper of 1", x.walker(1, 4), 1);
        law(x, "pass if taper<2");
        due("the law sees no more", x.walker(1, 4), 0);

        PaneStreet t = Check.streetOf("pane;pane;pane;walker at 0 taper 1 owns 0;walker at 0 taper 1 owns 1;"
            + "walker at 0 taper 1 owns 2;way 0 1;way 1 2;likes 1 0 4;likes 2 0 3");
        due("one like more is enough", t.walker(0, 5), 1);
        t.like(1, 0, 3);
        due("two would be", t.walker(0, 5), -1);
        t.like(2, 0, 4);
        due("the farther one", t.walker(0, 5), 2);
        t.like(1, 0, 9);
        law(t, "pass if likes>9");
        due("9 at most", t.walker(0, 5), 1);
        t.way(0, 1, false);
        due("there must be a far", t.walker(0, 5), -1);
        t.way(0, 2, true);
        t.way(0, 1, true);
        due("of several the least", t.walker(0, 5), 1);
        t.strike(1);
        due("his own burns", t.walker(0, 5), -1);
        PaneStreet poor = Check.streetOf("pane;pane;walker at 0 taper 1;walker at 0 taper 1 owns 1;way 0 1");
        due("he would light it", poor.lights(0, 1), true);
        due("but owns none", poor.walker(0, 5), -1);

        Check.begin("8 part");
        PaneStreet p = Check.streetOf("pane;pane;pane;walker at 0 taper 9;walker at 1 taper 9;walker at 2 taper 0;way 0 1");
        p.hours(1);
        due("half", p.walker(0, 6), 50);
        p.heads(0, 1);
        due("none", p.walker(2, 6), 0);
        p.taper(2, 1);
        p.hours(1);
        due("a third", p.walker(0, 6), 33);

        Check.begin("9 likes");
        due("told", x.likes(0, 1), 4);
        due("not told", x.likes(1, 0), 5);
        Check.throwing("both one", ARGUMENT, () -> x.likes(1, 1));
        Check.throwing("no walker", INDEX, () -> x.likes(3, 3));
        Check.throwing("no other", INDEX, () -> x.likes(0, -1));
        Check.throwing("no first", INDEX, () -> x.likes(3, 0));
    }

    private static void hours() {
        Check.begin("13 hours");
        PaneStreet x = Check.streetOf(LINE);
        due("three", x.hours(3), 2);
        due("hour", x.count(4), 1);
        due("night", x.count(5), 1);
        due("he is there", x.walker(0, 0), 3);
        due("he heads to none", x.walker(0, 2), -1);
        due("he lit one", x.walker(0, 3), 1);
        due("a taper less", x.walker(0, 1), 1);
        due("the owner likes him more", x.likes(2, 0), 8);
        due("the other one, too", x.likes(1, 2), 6);
        due("oil of the first lit", x.pane(2, 0), 17);
        due("oil of the last lit", x.pane(3, 0), 19);
        due("burnt out", x.pane(1, 1), 0);
        due("oil 0", x.pane(1, 0), 0);
        due("dark 1 by that", x.pane(1, 3), 1);
        due("dark 3", x.pane(0, 3), 3);
        due("dark 0", x.pane(2, 3), 0);
        Check.throwing("0", ARGUMENT, () -> x.hours(0));
        Check.throwing("61", ARGUMENT, () -> x.hours(61));
        Check.throwing("-1", ARGUMENT, () -> x.hours(-1));
        due("no act by these", x.count(12), 1);
        x.hours(60);
        x.hours(60);
        due("99 at most", x.pane(0, 3), 99);

        PaneStreet two = Check.streetOf("pane;walker at 0 taper 1;walker at 0 taper 1");
        due("by all as it is then", two.hours(1), 1);
        due("the first by numbers", two.walker(1, 1), 1);
        PaneStreet likes = Check.streetOf("pane oil 1;walker at 0 taper 99 owns 0;walker at 0 taper 99;likes 0 1 8", "");
        for (int i = 0; i < 3; i++) {
            likes.hours(1);
            likes.oil(0, 1);
        }
        due("likes are 9 at most", likes.likes(0, 1), 9);
        due("he lit it thrice", likes.walker(1, 3), 3);
        PaneStreet law = Check.streetOf("pane;walker at 0 taper 1;hour 23", "pass if hour<23");
        due("the hour that was", law.hours(1), 1);
        due("the log tells it", law.log(0, 1), 23);
        due("and its night", law.log(0, 0), 0);
        due("a new night", law.count(5), 1);

        PaneStreet least = Check.streetOf("pane;pane;pane;pane;walker at 3 taper 0 heads 0;way 3 2;way 3 1;way 1 0;way 2 0");
        least.hours(1);
        due("of several the least", least.walker(0, 0), 1);
        PaneStreet no = Check.streetOf("pane;pane;walker at 0 taper 0 heads 1;walker at 0 taper 0 heads 0");
        no.hours(5);
        due("no far", no.walker(0, 0), 0);
        due("he heads on", no.walker(0, 2), 1);
        due("where he is, till the next", no.walker(1, 2), -1);
    }

    private static void fogs() {
        Check.begin("13 fog");
        PaneStreet x = Check.streetOf("pane;pane;walker at 0 taper 1 heads 1;walker at 0 taper 0 heads 0;way 0 1;fog 100", "pass if not misty");
        due("one lights in mist", x.hours(1), 1);
        due("mist", x.count(7), 1);
        due("nobody goes on", x.walker(0, 0), 0);
        due("nor is anyone there", x.walker(1, 2), 0);
        due("he heads on", x.walker(0, 2), 1);
        int drawn = 1 * 1103515245 + 12345;
        due("a draw", x.seed(7), drawn);
        due("seed", x.seed(1), 7);
        Check.feed(x, "fog 0");
        x.street();
        due("the mist stays till the next hour", x.count(7), 1);
        x.hours(1);
        due("no mist", x.count(7), 0);
        due("a draw with fog 0, too", x.seed(1), drawn);
        due("he went on", x.walker(0, 0), 1);
        int draw = (drawn >>> 16 & 0x7fff) % 100;
        Check.feed(x, "fog " + draw);
        x.street();
        x.hours(1);
        due("not below", x.count(7), 0);
        Check.feed(x, "fog " + (draw + 1));
        x.street();
        x.seed(1);
        x.hours(1);
        due("below", x.count(7), 1);
        x.seed(-5);
        due("a seed below 0", x.seed(0), -5);
    }

    private static void acts() {
        Check.begin("14 heads");
        PaneStreet x = Check.streetOf(LINE);
        due("to which he did", x.heads(0, 1), 3);
        due("now 1", x.heads(0, -1), 1);
        due("now none", x.heads(0, 0), -1);
        due("to where he is", x.walker(0, 2), 0);
        Check.throwing("no walker", INDEX, () -> x.heads(3, -1));
        Check.throwing("no pane", INDEX, () -> x.heads(0, 4));
        Check.throwing("below none", INDEX, () -> x.heads(0, -2));
        due("acts", x.count(12), 3);

        Check.begin("15 strike");
        PaneStreet s = Check.streetOf("pane oil 1;pane;walker at 0 taper 1 owns 1 heads 1;walker at 1 taper 2;walker at 1 "
            + "taper 0 owns 0;likes 2 0 9;hour 5;night 3", "pass;cold 20");
        due("he lights it for all that", s.strike(0), 0);
        due("burning", s.pane(0, 1), 1);
        due("his heads stay", s.walker(0, 2), 1);
        due("lit", s.walker(0, 3), 1);
        due("9 at most", s.likes(2, 0), 9);
        due("log kind", s.log(0, 2), 1);
        due("log night", s.log(0, 0), 3);
        due("log hour", s.log(0, 1), 5);
        due("log pane", s.log(0, 3), 0);
        due("log walker", s.log(0, 4), 0);
        Check.throwing("burning and spent", STATE, () -> s.strike(0));
        due("one lights an owned one", s.strike(1), 1);
        due("the owner likes him", s.likes(0, 1), 6);
        Check.throwing("burning", STATE, () -> s.strike(1));
        s.hours(1);
        due("dark is 1", s.pane(0, 3), 1);
        s.taper(0, 1);
        Check.throwing("no oil", STATE, () -> s.strike(0));
        s.oil(0, 3);
        due("oil again", s.strike(0), 0);
        due("dark is 0", s.pane(0, 3), 0);
        s.snuff(0);
        Check.throwing("spent", STATE, () -> s.strike(0));
        Check.throwing("no walker", INDEX, () -> s.strike(3));
        PaneStreet own = Check.streetOf("pane;walker at 0 taper 1 owns 0");
        Check.throwing("his own", STATE, () -> own.strike(0));
        PaneStreet nobodys = Check.streetOf("pane;walker at 0 taper 1");
        due("one without an owner", nobodys.strike(0), 0);

        Check.begin("16 snuff");
        PaneStreet n = Check.streetOf("pane oil 8 lit;pane lit;pane;walker at 2 taper 1 owns 0;walker at 2 taper 1 owns 2");
        due("oil of it", n.snuff(0), 8);
        due("not burning", n.pane(0, 1), 0);
        due("dark 0 yet", n.pane(0, 3), 0);
        due("log kind", n.log(0, 2), 3);
        due("log walker is the owner", n.log(0, 4), 0);
        Check.throwing("not burning any more", STATE, () -> n.snuff(0));
        Check.throwing("no owner", STATE, () -> n.snuff(1));
        Check.throwing("never burning", STATE, () -> n.snuff(2));
        Check.throwing("no pane", INDEX, () -> n.snuff(3));
        due("one act", n.count(12), 1);

        Check.begin("17 oil");
        due("given", n.oil(0, 1), 9);
        due("99 at most", n.oil(0, 99), 99);
        Check.throwing("0", ARGUMENT, () -> n.oil(0, 0));
        Check.throwing("100", ARGUMENT, () -> n.oil(0, 100));
        Check.throwing("no pane", INDEX, () -> n.oil(3, 0));

        Check.begin("18 taper");
        due("bought", n.taper(1, 1), 2);
        due("99 at most", n.taper(1, 98), 99);
        Check.throwing("0", ARGUMENT, () -> n.taper(0, 0));
        Check.throwing("100", ARGUMENT, () -> n.taper(0, 100));
        Check.throwing("no walker", INDEX, () -> n.taper(2, 0));

        Check.begin("19 like");
        due("what they were", n.like(0, 1, 0), 5);
        due("told", n.like(0, 1, 9), 0);
        due("now", n.likes(0, 1), 9);
        due("the other one's stay", n.likes(1, 0), 5);
        Check.throwing("10", ARGUMENT, () -> n.like(0, 1, 10));
        Check.throwing("-1", ARGUMENT, () -> n.like(0, 1, -1));
        Check.throwing("both one", ARGUMENT, () -> n.like(1, 1, 3));
        Check.throwing("no walker", INDEX, () -> n.like(0, 2, 10));

        Check.begin("20 way");
        due("opened", n.way(0, 1, true), true);
        due("open", n.way(1, 0, true), false);
        due("both ways", n.isOpen(1, 0), true);
        due("closed", n.way(1, 0, false), true);
        due("not open", n.way(0, 1, false), false);
        Check.throwing("both one", ARGUMENT, () -> n.way(1, 1, true));
        Check.throwing("no pane", INDEX, () -> n.way(3, 3, true));

        Check.begin("12 isOpen");
        due("not open", n.isOpen(0, 1), false);
        Check.throwing("both one", ARGUMENT, () -> n.isOpen(1, 1));
        Check.throwing("no pane", INDEX, () -> n.isOpen(0, 3));
        Check.throwing("no first pane", INDEX, () -> n.isOpen(3, 0));
    }

    private static void ways() {
        Check.begin("21 far");
        PaneStreet x = Check.streetOf(LINE + ";pane");
        due("three", x.far(0, 3), 3);
        due("to itself", x.far(2, 2), 0);
        due("none", x.far(0, 4), -1);
        Check.throwing("no pane", INDEX, () -> x.far(0, 5));
        Check.throwing("no first pane", INDEX, () -> x.far(-1, 0));
        PaneStreet nine = new PaneStreet();
        street(nine, "pane;pane;pane;pane;pane;pane;pane;pane;pane");
        for (int p = 0; p < 8; p++) {
            nine.way(p, p + 1, true);
        }
        due("eight", nine.far(8, 0), 8);

        Check.begin("26 beats");
        due("a line of nine", nine.beats(), 0b010010010);
        due("with a lonely one", x.beats(), 0b10101);
        due("a ring", Check.streetOf(RING_OF_FOUR).beats(), 0b0011);
        due("a star", Check.streetOf("pane;pane;pane;pane;way 2 0;way 2 1;way 2 3").beats(), 0b0100);
        due("no ways", Check.streetOf("pane;pane").beats(), 0b11);
        due("without panes", new PaneStreet().beats(), 0);

        Check.begin("27 parts");
        due("a line and one", x.parts(), 2);
        due("all", nine.parts(), 1);
        due("no ways", Check.streetOf("pane;pane;pane").parts(), 3);

        Check.begin("28 bend");
        due("a line", nine.bend(), 0b011111110);
        due("a ring", Check.streetOf(RING_OF_FOUR).bend(), 0);
        due("two rings at one", Check.streetOf("pane;pane;pane;pane;pane;way 0 1;way 1 2;way 2 0;way 2 3;way 3 4;way 4 2").bend(), 0b00100);
        due("a line and one", x.bend(), 0b0110);

        Check.begin("29 closed");
        due("a line", nine.closed(0, 8), 1);
        due("a ring", Check.streetOf(RING_OF_FOUR).closed(0, 2), 2);
        due("one pane", nine.closed(3, 3), -1);
        due("no far", x.closed(0, 4), 0);
        Check.throwing("no pane", INDEX, () -> x.closed(5, 5));
        Check.throwing("no first pane", INDEX, () -> x.closed(5, 0));
        Check.throwing("no second pane", INDEX, () -> x.closed(0, 5));
        due("all with all", Check.streetOf("pane;pane;pane;pane;way 0 1;way 0 2;way 0 3;way 1 2;way 1 3;way 2 3").closed(1, 3), 3);
        due("by its waist", Check.streetOf("pane;pane;pane;pane;pane;way 0 1;way 0 2;way 1 3;way 2 3;way 3 4").closed(0, 4), 1);

        Check.begin("24 never");
        PaneStreet n = Check.streetOf(LINE);
        due("all can be lit", n.never(), 0);
        law(n, "pass if pane<3");
        due("but for the burning one", n.never(), 0b0101);
        due("without panes", new PaneStreet().never(), 0);
        PaneStreet dry = Check.streetOf("pane oil 0;pane;walker at 0 taper 1 owns 1");
        due("without oil, and his own", dry.never(), 0b11);
    }

    private static Object round(PaneStreet x, int walker, boolean next, int... panes) {
        Check.feed(x, panes);
        return Check.answerOf(() -> x.round(walker, next));
    }

    private static void rounds() {
        Check.begin("25 round");
        PaneStreet x = new PaneStreet();
        street(x, "pane;pane;pane;pane;pane;pane;pane;pane;pane;walker at 3 taper 0");
        for (int p = 0; p < 7; p++) {
            x.way(p, p + 1, true);
        }
        due("to both ends", round(x, 0, false, 0, 7), 10);
        due("the nearer end first", round(x, 0, true, 7, 0), 0);
        due("the middle of a line", round(x, 0, false, 6, 0), 9);
        due("both as far", round(x, 0, true, 6, 0), 0);
        due("where he is", round(x, 0, false, 3), 0);
        due("he is there first", round(x, 0, true, 4, 3), 3);
        due("one step", round(x, 0, false, 4, 3), 1);
        due("on the way", round(x, 0, true, 6, 5, 4), 4);
        due("all on the way", round(x, 0, false, 6, 5, 4), 3);
        due("eight", round(x, 0, false, 7, 6, 5, 4, 3, 2, 1, 0), 10);
        due("eight, in the first order of ten steps", round(x, 0, true, 7, 6, 5, 4, 3, 2, 1, 0), 0);
        due("no far", round(x, 0, false, 8), -1);
        due("no far, next", round(x, 0, true, 8, 4), -1);
        due("none told", round(x, 0, false), 0);
        due("none told, next", round(x, 0, true), -1);
        due("nine", round(x, 0, false, 0, 1, 2, 3, 4, 5, 6, 7, 8), "throws IllegalArgumentException");
        due("twice", round(x, 0, false, 1, 2, 1), "throws IllegalArgumentException");
        due("no pane", round(x, 0, true, 9), "throws IllegalArgumentException");
        due("a great byte", round(x, 0, true, 255), "throws IllegalArgumentException");
        due("no walker", round(x, 1, true, 255), "throws IndexOutOfBoundsException");
        due("the tape is used up", x.end(1), false);
        PaneStreet ring = Check.streetOf(RING_OF_FOUR + ";walker at 0 taper 0");
        due("of two ways the lesser first", round(ring, 0, true, 3, 2, 1), 1);
        due("three steps", round(ring, 0, false, 3, 2, 1), 3);
        due("again", round(ring, 0, false, 2), 2);
        due("no act", ring.count(12), 0);
    }

    private static Object whoLit(PaneStreet x, int... rows) {
        Check.feed(x, rows);
        return Check.answerOf(x::whoLit);
    }

    private static Object ask(PaneStreet x, int... rows) {
        Check.feed(x, rows);
        return Check.answerOf(x::ask);
    }

    private static void places() {
        Check.begin("31 whoLit");
        PaneStreet x = Check.streetOf("pane;pane;pane;pane;pane;way 0 1;way 1 2;way 2 3");
        due("none told", whoLit(x), 0b11111);
        due("now", whoLit(x, 2, 0), 0b00100);
        due("an hour ago", whoLit(x, 2, 1), 0b01110);
        due("two hours ago", whoLit(x, 0, 2), 0b00111);
        due("20 hours ago", whoLit(x, 0, 20), 0b01111);
        due("a lonely one", whoLit(x, 4, 20), 0b10000);
        due("both", whoLit(x, 0, 3, 2, 1), 0b01110);
        due("both, in time", whoLit(x, 2, 1, 0, 3, 3, 0), 0b01000);
        due("too far", whoLit(x, 0, 2, 3, 0), 0);
        due("no such walk between", whoLit(x, 0, 5, 4, 2), 0);
        due("like hours, unlike panes", whoLit(x, 0, 5, 1, 5), 0);
        due("twice the same", whoLit(x, 0, 1, 0, 1), 0b00011);
        due("back again", whoLit(x, 3, 4, 0, 1), 0b00011);
        due("21 hours", whoLit(x, 0, 21), "throws IllegalArgumentException");
        due("no pane", whoLit(x, 5, 0), "throws IllegalArgumentException");
        due("half a row", whoLit(x, 0), "throws IllegalArgumentException");
        due("40 bytes", whoLit(x, new int[40]), 1);
        due("42 bytes", whoLit(x, new int[42]), "throws IllegalArgumentException");
        due("used up", x.end(1), false);

        Check.begin("32 ask");
        due("one end parts all, but for none", ask(x), 0);
        due("one place", ask(x, 0, 0), -1);
        due("no place", ask(x, 0, 2, 3, 0), -1);
        PaneStreet ring = Check.streetOf(RING_OF_FOUR + ";pane;way 1 4");
        due("the least of the best", ask(ring), 0);
        due("two places", ask(ring, 4, 1), 0);
        due("0 and 2 are alike from 1", ask(ring, 1, 1), 0);
        PaneStreet star = Check.streetOf("pane;pane;pane;pane;way 0 1;way 0 2;way 0 3");
        due("a leaf is better than the middle", ask(star), 1);
        PaneStreet lonely = Check.streetOf("pane;pane;pane;pane;way 2 3");
        due("none is one part", ask(lonely), 2);
        due("half a row", ask(x, 0), "throws IllegalArgumentException");
        due("21 hours", ask(x, 0, 21), "throws IllegalArgumentException");
        due("without panes", ask(new PaneStreet()), -1);
    }

    private static void favours() {
        Check.begin("30 madeUp");
        PaneStreet x = Check.streetOf(LINE);
        due("none needed", x.madeUp(), 0);
        x.like(2, 0, 4);
        due("one", x.madeUp(), 1);
        x.like(2, 1, 4);
        due("two", x.madeUp(), 2);
        due("they were only thought of", x.likes(2, 1), 4);
        law(x, "cold 5 if likes>8");
        due("no pairs do", x.madeUp(), -1);
        law(x, "cold 4");
        due("three by 9", x.madeUp(), 3);
        due("without panes", new PaneStreet().madeUp(), 0);
        PaneStreet nobodys = Check.streetOf("pane;pane oil 0;walker at 0 taper 0");
        due("without owners", nobodys.madeUp(), 0);
        PaneStreet alone = Check.streetOf("pane;walker at 0 taper 9 owns 0");
        due("an owner alone", alone.madeUp(), -1);

        Check.begin("33 ring");
        PaneStreet r = Check.streetOf(LINE);
        due("0 points to 2", r.ring(0), true);
        due("2 points to 0", r.ring(2), true);
        due("1 points to nobody", r.ring(1), false);
        Check.throwing("no walker", INDEX, () -> r.ring(3));
        PaneStreet far = Check.streetOf("pane;pane;pane;walker at 0 taper 1 owns 0;walker at 1 taper 1 owns 1;"
            + "walker at 2 taper 1 owns 2;way 0 1;way 1 2");
        due("2 points to 1", far.walker(2, 5), 1);
        due("but is not come back to", far.ring(2), false);
        due("0 and 1 are", far.ring(0) && far.ring(1), true);
        PaneStreet three = Check.streetOf("pane;pane;pane;walker at 1 taper 1 owns 0;walker at 2 taper 1 owns 1;"
            + "walker at 0 taper 1 owns 2;way 0 1;way 1 2;way 2 0");
        due("a ring of three", three.ring(0) && three.ring(1) && three.ring(2), true);
    }

    private static void sidesAndPairs() {
        Check.begin("34 sides");
        due("none", new PaneStreet().sides(), -1);
        due("one", Check.streetOf("pane;walker at 0 taper 0").sides(), -1);
        due("two", Check.streetOf("pane;walker at 0 taper 0;walker at 0 taper 0").sides(), 0b10);
        PaneStreet x = Check.streetOf("pane;pane;walker at 0 taper 0;walker at 0 taper 0;walker at 0 taper 0;walker at 1 taper 0");
        due("of several the least", x.sides(), 0b0010);
        x.like(1, 2, 9);
        x.like(0, 3, 9);
        x.like(0, 1, 0);
        x.like(1, 0, 0);
        x.like(0, 2, 0);
        x.like(2, 0, 0);
        x.like(1, 3, 0);
        x.like(2, 3, 0);
        x.like(3, 1, 0);
        x.like(3, 2, 0);
        due("friends together", x.sides(), 0b0110);

        Check.begin("35 pairs");
        due("one with the other", x.pairs(1), 2);
        due("and he with him", x.pairs(2), 1);
        due("no far", x.pairs(0), -1);
        due("how much", x.pairs(-1), 14);
        x.way(0, 1, true);
        due("by a way", x.pairs(0), 3);
        due("how much by a way", x.pairs(-1), 28);
        Check.throwing("no walker", INDEX, () -> x.pairs(4));
        Check.throwing("below none", INDEX, () -> x.pairs(-2));
        due("nobody", new PaneStreet().pairs(-1), 0);
        PaneStreet even = Check.streetOf("pane;walker at 0 taper 0;walker at 0 taper 0;walker at 0 taper 0");
        due("none is the least", even.pairs(0), -1);
        due("then the others", even.pairs(1), 2);
        PaneStreet cold = Check.streetOf("pane;walker at 0 taper 0;walker at 0 taper 0;likes 0 1 0;likes 1 0 0");
        due("none ahead of a pair of nothing", cold.pairs(0), -1);
        due("nothing", cold.pairs(-1), 0);
        PaneStreet best = Check.streetOf("pane;walker at 0 taper 0;walker at 0 taper 0;walker at 0 taper 0;walker at 0 taper 0;"
            + "likes 1 2 9;likes 2 1 9");
        due("two pairs are more than the best one", best.pairs(-1), 28);
        due("0 with", best.pairs(0), 3);
    }

    private static Object learnt(PaneStreet x, int... rows) {
        Check.feed(x, rows);
        return Check.answerOf(x::learnt);
    }

    private static void learnt() {
        Check.begin("36 learnt");
        PaneStreet x = Check.streetOf(LINE);
        due("none told", learnt(x), 0x3fe);
        due("likes 4, not lit", learnt(x, 0, 2, 0), 0b1111100000);
        due("likes 4, lit", learnt(x, 0, 2, 1), 0b0000011110);
        due("both at once", learnt(x, 0, 2, 1, 0, 2, 0), 0);
        due("between 4 and 7", learnt(x, 0, 2, 0, 2, 0, 1), 0b0011100000);
        due("no owner", learnt(x, 0, 1, 1), "throws IllegalArgumentException");
        due("his own", learnt(x, 0, 0, 1), "throws IllegalArgumentException");
        due("neither", learnt(x, 0, 2, 2), "throws IllegalArgumentException");
        due("no walker", learnt(x, 3, 2, 1), "throws IllegalArgumentException");
        due("no pane", learnt(x, 0, 4, 1), "throws IllegalArgumentException");
        due("no pane of another", learnt(x, 1, 4, 1), "throws IllegalArgumentException");
        due("a great pane", learnt(x, 1, 255, 1), "throws IllegalArgumentException");
        due("half a row", learnt(x, 0, 2), "throws IllegalArgumentException");
        int[] rows = new int[39];
        for (int i = 1; i < 39; i += 3) {
            rows[i] = 2;
        }
        due("39 bytes", learnt(x, rows), 0b1111100000);
        int[] more = new int[42];
        for (int i = 1; i < 42; i += 3) {
            more[i] = 2;
        }
        due("42 bytes", learnt(x, more), "throws IllegalArgumentException");
        due("used up", x.end(1), false);
        x.like(0, 2, 0);
        due("likes 0, lit", learnt(x, 0, 3, 1), 0);
        due("likes 0, not lit", learnt(x, 0, 3, 0), 0x3fe);
    }

    private static void shareRestsOdds() {
        Check.begin("37 share");
        PaneStreet x = Check.streetOf(LINE);
        due("both come up to 9", x.share(0, 10), 9);
        due("9", x.share(1, 10), 9);
        due("a rich one", x.share(2, 10), 20);
        due("the least gets it first", x.share(0, 3), 6);
        due("none", x.share(0, 0), 5);
        due("99 at most", x.share(0, 999), 99);
        due("nothing stays", x.pane(0, 0), 5);
        Check.throwing("-1", ARGUMENT, () -> x.share(0, -1));
        Check.throwing("1000", ARGUMENT, () -> x.share(0, 1000));
        Check.throwing("no pane", INDEX, () -> x.share(4, -1));

        Check.begin("38 rests");
        x.like(2, 0, 6);
        due("both go by", x.rests(0, 2), 0b1000);
        x.like(0, 2, 7);
        due("one alone would light", x.rests(0, 2), 0b1000);
        x.like(2, 0, 7);
        due("both light, too", x.rests(0, 2), 0b1001);
        x.like(2, 0, 6);
        due("6 is too little", x.rests(0, 2), 0b1000);
        Check.throwing("both one", ARGUMENT, () -> x.rests(1, 1));
        Check.throwing("no walker", INDEX, () -> x.rests(3, 3));

        Check.begin("39 odds");
        PaneStreet f = Check.streetOf("fog 50");
        due("one of one", f.odds(1, 1), 5000);
        due("two of three", f.odds(3, 2), 5000);
        due("three of three", f.odds(3, 3), 1250);
        due("six of six, rounded down", f.odds(6, 6), 156);
        due("none of none", f.odds(0, 0), 10000);
        due("one of none", f.odds(0, 1), 0);
        due("one of six", f.odds(6, 1), 9843);
        street(f, "fog 1");
        due("of fog 1", f.odds(6, 1), 585);
        street(f, "fog 100");
        due("of fog 100", f.odds(6, 6), 10000);
        street(f, "fog 0");
        due("of fog 0", f.odds(6, 1), 0);
        due("of fog 0, none", f.odds(6, 0), 10000);
        Check.throwing("7 hours", ARGUMENT, () -> f.odds(7, 0));
        Check.throwing("-1 hours", ARGUMENT, () -> f.odds(-1, 0));
        Check.throwing("k 7", ARGUMENT, () -> f.odds(0, 7));
        Check.throwing("k -1", ARGUMENT, () -> f.odds(0, -1));
    }

    private static void sums() {
        PaneStreet x = Check.streetOf("pane lit;pane;pane lit;walker at 2 taper 0;walker at 1 taper 2;walker at 1 taper 2;"
            + "walker at 2 taper 0;walker at 1 taper 0");
        Check.begin("40 bright");
        due("two", x.bright(), 0b101);
        Check.begin("41 gloom");
        due("of several the least", x.gloom(), 0);
        x.hours(1);
        due("all lit", x.gloom(), 0);
        PaneStreet g = Check.streetOf("pane lit;pane;pane");
        g.hours(1);
        due("the darkest", g.gloom(), 1);
        due("none", new PaneStreet().gloom(), -1);
        Check.begin("42 lamplighter");
        due("one", x.lamplighter(), 1);
        due("nobody", g.lamplighter(), -1);
        PaneStreet two = Check.streetOf(TWO);
        two.hours(1);
        due("of several the least", two.lamplighter(), 0);
        Check.begin("43 spent");
        due("three", x.spent(), 0b11001);
        Check.begin("44 crowd");
        due("where three are", x.crowd(), 1);
        due("of several the least", two.crowd(), 0);
        due("the first of all counts", Check.streetOf("pane;pane;walker at 1 taper 0;walker at 1 taper 0;walker at 0 "
            + "taper 0").crowd(), 1);
        due("none without walkers", g.crowd(), -1);
        Check.begin("45 alike");
        due("0 and 3", x.alike(), 1);
        x.taper(1, 1);
        due("0 and 3, 1 and 2", x.alike(), 2);
        x.taper(4, 2);
        due("and 4 with both", x.alike(), 4);
    }

    private static void foresight() {
        Check.begin("46 ahead");
        PaneStreet x = Check.streetOf(LINE + ";fog 100");
        due("oil", x.ahead(1, 2, 0), 1);
        due("burning", x.ahead(1, 2, 1), 1);
        due("burnt out", x.ahead(1, 3, 1), 0);
        due("dark", x.ahead(0, 60, 2), 60);
        due("now", x.ahead(1, 0, 0), 3);
        due("he goes on without mist", x.ahead(3, 3, 1), 1);
        due("nothing stays", x.count(4), 22);
        Check.throwing("61", ARGUMENT, () -> x.ahead(0, 61, 3));
        Check.throwing("-1", ARGUMENT, () -> x.ahead(0, -1, 0));
        Check.throwing("what 3", NO_ELEMENT, () -> x.ahead(0, 0, 3));
        Check.throwing("what -1", NO_ELEMENT, () -> x.ahead(0, 0, -1));
        Check.throwing("no pane", INDEX, () -> x.ahead(4, 61, 3));
        due("no draws", x.seed(1), 1);

        Check.begin("22 out");
        due("the last lit of 20 at 3", x.out(), 22);
        due("now", Check.streetOf("pane").out(), 0);
        due("never", Check.streetOf("pane oil 61 lit").out(), -1);
        due("at last", Check.streetOf("pane oil 60 lit").out(), 60);
        due("when, without mist", x.pane(3, 5), 3);

        Check.begin("23 spoon");
        due("0 is dark for 3 hours", x.spoon(), 0);
        due("without an owner", Check.streetOf("pane;pane lit;walker at 0 taper 0 owns 1").spoon(), 1);
        due("none", Check.streetOf("pane;pane oil 99 lit;walker at 0 taper 0 owns 1").spoon(), -1);
        PaneStreet two = Check.streetOf("pane oil 1;pane oil 1;walker at 0 taper 0 owns 1;walker at 0 taper 0 owns 0");
        due("of several the least", two.spoon(), 0);
        two.hours(5);
        due("now", two.spoon(), 0);
        PaneStreet last = Check.streetOf("pane oil 58 lit;walker at 0 taper 0 owns 0");
        due("by hour 60", last.spoon(), 0);
        last.oil(0, 1);
        due("by hour 61", last.spoon(), -1);
        due("without mist he comes in time", Check.streetOf("pane oil 99;pane oil 99;walker at 0 taper 9 owns 0 heads 1;"
            + "walker at 0 taper 0 owns 1;walker at 0 taper 9;way 0 1;fog 100").spoon(), -1);

        Check.begin("47 trial");
        due("in mist he stays", x.trial(3, false), 0b0100);
        due("oil", x.trial(3, true), 5 + 0 + 17 + 20);
        due("now", x.trial(0, false), 0b0010);
        due("oil now", x.trial(0, true), 48);
        due("the seed stays", x.seed(1), 1);
        Check.throwing("61", ARGUMENT, () -> x.trial(61, true));
        Check.throwing("-1", ARGUMENT, () -> x.trial(-1, true));
        due("no acts", x.count(12), 0);

        Check.begin("48 span");
        due("the least", x.span(3, false), 1);
        due("the greatest", x.span(3, true), 1);
        for (int fog = 1; fog < 100; fog++) {
            spanByTrials(fog);
        }
        PaneStreet sixth = Check.streetOf("pane;pane;pane;pane;pane;pane;walker at 0 taper 1;walker at 1 taper 1;"
            + "walker at 2 taper 1;walker at 3 taper 1;walker at 4 taper 1;walker at 5 taper 1;fog 27",
            "pass if hour<pane or hour>pane or misty and pane>1 or not misty and pane<2");
        due("all six by seed 6 alone", sixth.span(6, true), 6);
        due("two by seed 1 alone", sixth.span(6, false), 2);
        PaneStreet s = Check.streetOf(LINE + ";fog 50");
        s.seed(7);
        s.span(60, true);
        due("the seed stays", s.seed(1), 7);
        Check.throwing("61", ARGUMENT, () -> s.span(61, true));
        Check.throwing("-1", ARGUMENT, () -> s.span(-1, true));
    }

    /** The lamps that are lit tell how often he went on. */
    private static void spanByTrials(int fog) {
        PaneStreet s = Check.streetOf("pane;pane;pane;pane;pane;pane;pane;walker at 0 taper 9 heads 6;"
            + "way 0 1;way 1 2;way 2 3;way 3 4;way 4 5;fog " + fog);
        s.way(5, 6, true);
        for (int n = 0; n <= 6; n++) {
            int least = 9;
            int most = 0;
            for (int seed = 1; seed <= 6; seed++) {
                s.seed(seed);
                int lamps = Integer.bitCount(s.trial(n, false));
                least = Math.min(least, lamps);
                most = Math.max(most, lamps);
            }
            due("the least by fog " + fog + " in hours " + n, s.span(n, false), least);
            due("the most by fog " + fog + " in hours " + n, s.span(n, true), most);
        }
    }

    private static void logs() {
        Check.begin("50 log");
        PaneStreet x = Check.streetOf("pane oil 1;pane oil 2;walker at 0 taper 99;walker at 1 taper 0 owns 1;hour 23;night 4");
        due("none", x.log(0, 0), -2);
        x.hours(1);
        int[] burnt = {4, 23, 2, 0, -1};
        int[] lit = {4, 23, 0, 0, 0};
        for (int what = 0; what < 5; what++) {
            due("burnt out " + what, x.log(0, what), burnt[what]);
            due("lit " + what, x.log(1, what), lit[what]);
        }
        due("too long ago", x.log(2, 0), -2);
        due("below 0", x.log(-1, 0), -2);
        due("far below 0", x.log(Integer.MIN_VALUE, 0), -2);
        Check.throwing("5", NO_ELEMENT, () -> x.log(0, 5));
        Check.throwing("-1", NO_ELEMENT, () -> x.log(99, -1));
        for (int i = 0; i < 40; i++) {
            x.oil(0, 1);
            x.hours(1);
        }
        due("60 rows", x.count(11), 60);
        due("the 60th", x.log(59, 2), 0);
        due("not the 61st", x.log(60, 2), -2);

        Check.begin("49 led");
        due("all of pane 0", x.led(0, false), 60);
        due("the latest night", x.led(0, true), 6);
        due("none of pane 1", x.led(1, false), 0);
        due("no night", x.led(1, true), -1);
        x.taper(1, 1);
        x.heads(0, -1);
        Check.throwing("no pane", INDEX, () -> x.led(2, true));
        PaneStreet two = Check.streetOf(TWO);
        two.hours(12);
        due("lit and burnt out", two.led(0, false), 2);
        due("night 0", two.led(0, true), 0);
    }

    private static void undone() {
        Check.begin("52 undo");
        PaneStreet x = Check.streetOf(LINE);
        due("none", x.undo(), false);
        x.hours(3);
        x.seed(99);
        due("hours of one call are one", x.undo(), true);
        due("hour", x.count(4), 22);
        due("at", x.walker(0, 0), 0);
        due("taper", x.walker(0, 1), 2);
        due("likes", x.likes(2, 0), 7);
        due("log", x.count(11), 0);
        due("lit", x.count(9), 0);
        due("seed", x.seed(1), 1);
        due("no more", x.undo(), false);
        PaneStreet two = Check.streetOf(TWO);
        two.strike(0);
        two.strike(1);
        two.undo();
        due("the row that was", two.log(0, 3), 1);
        due("one row", two.log(1, 3), -2);
        due("his own lit", two.walker(0, 3), 1);
        due("not the other's", two.walker(1, 3), 0);
        x.seed(5);
        due("telling a seed is no act", x.count(12), 0);
        x.heads(0, 2);
        x.heads(0, 3);
        x.oil(0, 9);
        x.taper(1, 9);
        x.like(0, 1, 0);
        x.way(0, 3, true);
        x.strike(2);
        x.snuff(2);
        due("eight acts", x.count(12), 8);
        due("snuffed", x.undo() && x.bright() == 0b0110, true);
        due("struck", x.undo() && x.bright() == 0b0010 && x.walker(2, 1) == 1, true);
        due("opened", x.undo() && !x.isOpen(0, 3), true);
        due("told", x.undo() && x.likes(0, 1) == 4, true);
        due("bought", x.undo() && x.walker(1, 1) == 0, true);
        due("given", x.undo() && x.pane(0, 0) == 5, true);
        due("heads", x.undo() && x.walker(0, 2) == 2, true);
        due("the first one", x.undo() && x.walker(0, 2) == 3, true);
        due("none is left", x.undo(), false);
        for (int i = 1; i <= 13; i++) {
            x.oil(0, 1);
        }
        due("12 are remembered", x.count(12), 12);
        for (int i = 12; i >= 1; i--) {
            due("undone " + i, x.undo() && x.pane(0, 0) == 5 + i, true);
        }
        due("not the first of 13", x.undo(), false);
        due("it stays", x.pane(0, 0), 6);
        x.oil(0, 1);
        Check.throwing("a wrong one is none", ARGUMENT, () -> x.oil(0, 0));
        due("one", x.count(12), 1);
        street(x, "fog 1000");
        due("a wrong text leaves it", x.count(12), 1);
        street(x, "fog 10");
        due("a text", x.count(12), 0);
        x.oil(0, 1);
        law(x, "kind 21");
        due("a wrong law leaves it", x.count(12), 1);
        law(x, "");
        due("a law", x.undo(), false);
        x.oil(0, 1);
        due("back without an image", x.back(), false);
        due("it leaves it", x.count(12), 1);
        x.image();
        due("an image leaves it", x.count(12), 1);
        x.back();
        due("going back", x.undo(), false);
        x.oil(0, 1);
        Check.feed(x, "fog 1");
        x.undo();
        due("the tape stays", x.end(5), true);
    }

    private static void images() {
        Check.begin("53 and 54, image and back");
        PaneStreet x = Check.streetOf(LINE, "kind 1");
        due("none was kept", x.back(), false);
        x.seed(42);
        x.hours(2);
        int seed = x.seed(3);
        x.seed(seed);
        x.image();
        x.hours(5);
        street(x, "pane;way 4 0;fog 9");
        law(x, "kind 2;pass");
        x.like(0, 1, 0);
        Check.feed(x, "fog 77");
        due("gone back", x.back(), true);
        due("panes", x.count(0), 4);
        due("texts", x.count(2), 1);
        due("law", x.count(3), 1);
        due("will", x.will(0, 2), 5);
        due("hour", x.count(4), 0);
        due("fog", x.count(6), 0);
        due("ways", x.count(10), 3);
        due("likes", x.likes(0, 1), 4);
        due("log", x.count(11), 1);
        due("seed", x.seed(seed), seed);
        due("the tape stays", x.street(), 2);
        due("the image stays", x.back(), true);
        due("again", x.count(6), 0);
        x.hours(1);
        x.image();
        x.hours(1);
        x.back();
        due("the latest image alone", x.count(4), 1);
        x.hours(1);
        x.image();
        x.undo();
        due("undone", x.count(4), 1);
        x.back();
        due("an undo leaves the image", x.count(4), 2);
    }

    private static void counts() {
        Check.begin("55 count");
        PaneStreet x = Check.streetOf(LINE + ";fog 100", "pass if pane<3;kind 3");
        int[] want = {4, 3, 1, 2, 22, 0, 100, 0, 48, 0, 3, 0, 0};
        for (int what = 0; what < want.length; what++) {
            due("" + what, x.count(what), want[what]);
        }
        x.way(0, 3, true);
        x.strike(2);
        x.hours(3);
        int[] then = {4, 3, 1, 2, 1, 1, 100, 1, 42, 1, 4, 2, 3};
        for (int what = 0; what < then.length; what++) {
            due("then " + what, x.count(what), then[what]);
        }
        due("13", x.count(13), -1);
        due("-1", x.count(-1), -1);
        street(x, "night 998");
        for (int i = 0; i < 10; i++) {
            x.hours(60);
        }
        due("nights go on above 999", x.count(5), 998 + 601 / 24);
    }
}
