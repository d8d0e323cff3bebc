import java.util.NoSuchElementException;

/** The edges of acts undone, of the image, and of exceptions: which is thrown, and what stays. */
public final class UndoneEdgeTest {
    private static final Class<IndexOutOfBoundsException> INDEX = IndexOutOfBoundsException.class;
    private static final Class<IllegalArgumentException> ARGUMENT = IllegalArgumentException.class;
    private static final Class<IllegalStateException> STATE = IllegalStateException.class;
    private static final Class<NoSuchElementException> NO_ELEMENT = NoSuchElementException.class;

    /** Two panes with a way, a walker at each other's, and pane 2, which burns and is nobody's. */
    private static final String TEXT = "pane oil 5;pane oil 7;pane oil 9 lit;walker at 1 taper 3 owns 0 heads 2;walker at "
        + "0 taper 2 owns 1;"
        + "way 0 1;way 1 2;likes 0 1 6;likes 1 0 8;fog 40;hour 22;night 7";

    private UndoneEdgeTest() {
    }

    public static void main(String[] args) {
        eachActUndone();
        twelveActs();
        whatUndoLeaves();
        textsAndGoingBack();
        theImage();
        whichException();
        whatAThrowLeaves();
        noSuch();
        none();
        cannotBe();
        sets();
        Check.end();
    }

    private static void sentence(String promises, String words) {
        Check.sentence(promises, words);
    }

    private static void due(String call, Object got, Object want) {
        Check.due(call, got, want);
    }

    private static PaneStreet known() {
        PaneStreet x = Check.streetOf(TEXT, "kind 1 if owned;pass if hour>30");
        x.seed(77);
        return x;
    }

    /** An act, which changes something that can be seen, and is undone. */
    private static void undone(String act, Check.Call it, PaneStreet x) {
        String before = Sight.of(x);
        Check.due(act + " throws nothing", it.answer() instanceof String, false);
        due(act + " can be seen", Sight.of(x).equals(before), false);
        due(act + " is undone", x.undo(), true);
        due("all is as ahead of " + act, Sight.of(x), before);
    }

    private static void eachActUndone() {
        sentence("52", "UNDONE: the latest ACT not undone yet (12 are remembered; HOURS of one call are one): all is as "
            + "ahead of it");
        PaneStreet x = known();
        undone("hours(1)", () -> x.hours(1), x);
        PaneStreet h = known();
        undone("hours(60)", () -> h.hours(60), h);
        PaneStreet a = known();
        undone("heads to a pane", () -> a.heads(1, 2), a);
        PaneStreet b = known();
        undone("heads to none", () -> b.heads(0, -1), b);
        PaneStreet c = known();
        undone("strike", () -> c.strike(1), c);
        PaneStreet d = known();
        d.strike(1);
        undone("snuff", () -> d.snuff(0), d);
        PaneStreet e = known();
        undone("oil", () -> e.oil(2, 99), e);
        PaneStreet f = known();
        undone("taper", () -> f.taper(0, 99), f);
        PaneStreet g = known();
        undone("like", () -> g.like(0, 1, 0), g);
        PaneStreet i = known();
        undone("way opened", () -> i.way(0, 2, true), i);
        PaneStreet j = known();
        undone("way closed", () -> j.way(0, 1, false), j);
        PaneStreet none = new PaneStreet();
        undone("hours without panes", () -> none.hours(60), none);
        PaneStreet full = Check.streetOf("pane oil 99;walker at 0 taper 0 owns 0;walker at 0 taper 99", "pass");
        full.strike(1);
        full.hours(60);
        full.snuff(0);
        for (int n = 0; n < 29; n++) {
            full.strike(1);
            full.snuff(0);
        }
        due("60 rows", full.count(11), 60);
        due("the first one is of night 0", full.log(59, 0), 0);
        full.image();
        full.back();
        undone("an act by which the first of 60 rows goes", () -> full.strike(1), full);
        full.strike(1);
        due("it goes", full.log(59, 0), 2);
    }

    private static void twelveActs() {
        sentence("52", "an ACT that went as the thirteenth came is remembered no more).");
        for (int acts = 0; acts <= 14; acts++) {
            PaneStreet x = Check.streetOf("pane oil 0");
            for (int i = 0; i < acts; i++) {
                x.oil(0, 1);
            }
            due("remembered of " + acts, x.count(12), Math.min(acts, 12));
            for (int i = 1; i <= Math.min(acts, 12); i++) {
                due("undone " + i + " of " + acts, x.undo(), true);
                due("oil then", x.pane(0, 0), acts - i);
                due("remembered then", x.count(12), Math.min(acts, 12) - i);
            }
            due("no more of " + acts, x.undo(), false);
            due("what is left", x.pane(0, 0), Math.max(acts - 12, 0));
        }
        PaneStreet again = Check.streetOf("pane oil 0");
        for (int i = 0; i < 13; i++) {
            again.oil(0, 1);
        }
        again.undo();
        due("one undone", again.count(12), 11);
        again.oil(0, 10);
        due("another one in its place", again.count(12), 12);
        again.oil(0, 10);
        due("12 at most", again.count(12), 12);
        for (int i = 0; i < 12; i++) {
            due("undone again " + i, again.undo(), true);
        }
        due("the second of all is gone, too", again.undo() + " " + again.pane(0, 0), "false 2");
        PaneStreet many = Check.streetOf("pane");
        for (int i = 0; i < 30; i++) {
            many.hours(2);
        }
        for (int i = 0; i < 12; i++) {
            due("hours of one call are one", many.undo(), true);
        }
        due("36 hours stay", many.count(5) + " " + many.count(4), "1 12");
        due("and no more are undone", many.undo(), false);
    }

    private static void whatUndoLeaves() {
        sentence("52", "(but for the TAPE, fault(), THE IMAGE;");
        PaneStreet x = known();
        x.image();
        x.oil(0, 1);
        Check.street(x, "fog 1 x");
        x.oil(0, 2);
        Check.feed(x, "fog 99");
        x.undo();
        x.undo();
        due("oil", x.pane(0, 0), 5);
        due("the fault of a text that was wrong", x.fault(), 6);
        due("the tape is longer than 6", x.end(7), false);
        due("the tape has 6 bytes", x.end(6), true);
        x.oil(0, 3);
        x.image();
        x.undo();
        due("the image stays", x.back() + " " + x.pane(0, 0), "true 8");
        PaneStreet seed = known();
        seed.oil(0, 1);
        seed.seed(5);
        seed.undo();
        due("the seed is as ahead of the act", seed.seed(0), 77);
    }

    private static void textsAndGoingBack() {
        sentence("4, 5, 52, 54", "A text, going back: none are remembered.");
        String[] texts = {"", "fog 40", "pane"};
        for (String text : texts) {
            PaneStreet x = known();
            x.oil(0, 1);
            Check.street(x, text);
            due("behind the text '" + text + "'", x.count(12) + " " + x.undo() + " " + x.pane(0, 0), "0 false 6");
            x.oil(0, 1);
            due("acts behind it are", x.undo() + " " + x.pane(0, 0), "true 6");
        }
        PaneStreet wrong = known();
        wrong.oil(0, 1);
        Check.street(wrong, "fog");
        Check.law(wrong, "kind");
        due("behind wrong texts", wrong.count(12), 1);
        PaneStreet law = known();
        law.oil(0, 1);
        Check.law(law, "");
        due("behind a law", law.undo() + " " + law.pane(0, 0), "false 6");
        PaneStreet full = new PaneStreet();
        for (int i = 0; i < 12; i++) {
            Check.street(full, "");
        }
        full.hours(1);
        Check.street(full, "");
        due("behind a 13th text", full.count(12), 1);
        PaneStreet back = known();
        back.oil(0, 1);
        due("no image", back.back() + " " + back.count(12), "false 1");
        back.image();
        due("an image leaves them", back.count(12), 1);
        back.oil(0, 1);
        due("going back", back.back() + " " + back.count(12) + " " + back.undo(), "true 0 false");
        due("to the image", back.pane(0, 0), 6);
    }

    private static void theImage() {
        sentence("53, 54", "THE IMAGE (one) of all may be kept, and gone back to (but for the TAPE, fault() and THE IMAGE "
            + "itself).");
        PaneStreet empty = new PaneStreet();
        due("none was kept", empty.back(), false);
        empty.image();
        String before = Sight.of(empty);
        Check.street(empty, TEXT);
        Check.law(empty, "pass");
        empty.hours(5);
        empty.seed(9);
        due("gone back", empty.back(), true);
        due("to a street without panes", Sight.of(empty), before);
        PaneStreet x = known();
        x.hours(3);
        x.oil(0, 4);
        x.image();
        before = Sight.of(x);
        Check.street(x, "pane;walker at 3 taper 4 owns 3;way 3 0;fog 3;hour 3;night 3");
        Check.law(x, "kind 3;cold 4;pass if misty");
        x.hours(60);
        x.like(0, 1, 0);
        x.seed(3);
        x.back();
        due("all is as it was, but for acts", Sight.of(x), before.replace("count12=2", "count12=0"));
        x.hours(1);
        due("again", x.back() + " " + Sight.of(x).equals(before.replace("count12=2", "count12=0")), "true true");
        due("a pane that comes then is as at first", Check.street(x, "pane") + " " + x.pane(3, 0) + " " + x.pane(3, 2), "2 20 -1");
        PaneStreet one = Check.streetOf("pane oil 1");
        one.image();
        one.oil(0, 1);
        one.image();
        one.oil(0, 1);
        one.back();
        due("one image, the latest", one.pane(0, 0), 2);
        Check.street(one, "x");
        Check.feed(one, "fog 5");
        one.back();
        due("the fault stays", one.fault(), 0);
        due("the tape stays", one.end(6) + " " + one.end(5), "false true");
        due("going back leaves the image", one.back(), true);
    }

    private static void whichException() {
        sentence("4, 7, 8, 9, 12, 15, 16, 17, 18, 19, 20, 25, 37, 38, 46", "Of several exceptions the one told first is thrown;");
        PaneStreet x = known();
        Check.throwing("pane: no pane, no what", INDEX, () -> x.pane(3, 8));
        Check.throwing("walker: no walker, no what", INDEX, () -> x.walker(2, 7));
        Check.throwing("likes: no walkers, and one", INDEX, () -> x.likes(2, 2));
        Check.throwing("likes: below, and one", INDEX, () -> x.likes(-1, -1));
        Check.throwing("isOpen: no panes, and one", INDEX, () -> x.isOpen(3, 3));
        Check.throwing("isOpen: below, and one", INDEX, () -> x.isOpen(-1, -1));
        Check.throwing("strike: no walker", INDEX, () -> x.strike(2));
        Check.throwing("snuff: no pane", INDEX, () -> x.snuff(3));
        Check.throwing("oil: no pane, no number", INDEX, () -> x.oil(3, 0));
        Check.throwing("taper: no walker, no number", INDEX, () -> x.taper(2, 100));
        Check.throwing("like: no walker, no number", INDEX, () -> x.like(0, 2, 10));
        Check.throwing("like: no walkers, and one", INDEX, () -> x.like(2, 2, 10));
        Check.throwing("like: one, and no number", ARGUMENT, () -> x.like(1, 1, 10));
        Check.throwing("way: no panes, and one", INDEX, () -> x.way(3, 3, true));
        Check.throwing("share: no pane, no number", INDEX, () -> x.share(3, 1000));
        Check.throwing("rests: no walkers, and one", INDEX, () -> x.rests(2, 2));
        Check.throwing("ahead: all three", INDEX, () -> x.ahead(3, 61, 3));
        Check.throwing("ahead: no pane, no what", INDEX, () -> x.ahead(3, 60, 3));
        Check.throwing("ahead: no number, no what", ARGUMENT, () -> x.ahead(2, 61, 3));
        Check.throwing("ahead: no what", NO_ELEMENT, () -> x.ahead(2, 60, 3));
        Check.feed(x, 9, 9);
        Check.throwing("round: no walker, no panes", INDEX, () -> x.round(2, true));
        PaneStreet full = new PaneStreet();
        for (int i = 0; i < 12; i++) {
            Check.street(full, "");
        }
        Check.feed(full, "fog");
        Check.throwing("street: wrong, and there are 12", ARGUMENT, full::street);
        Check.feed(full, "fog 1");
        Check.throwing("street: there are 12", UnsupportedOperationException.class, full::street);
    }

    /** A call that throws leaves all as it was, and the tape, too, if it does not use it up. */
    private static void leaves(String call, Class<? extends RuntimeException> refusal, boolean usesTape,
            java.util.function.Function<PaneStreet, Object> it) {
        PaneStreet x = known();
        x.hours(1);
        Check.street(x, "fog 3 ?");
        Check.feed(x, 9, 9, 9, 9, 9);
        String before = Sight.of(x);
        Check.throwing(call, refusal, () -> it.apply(x));
        due(call + " leaves all", Sight.of(x), before);
        due(call + " leaves the fault", x.fault(), 6);
        due(call + " and of the tape", x.end(6) + " " + x.end(5), usesTape ? "false false" : "false true");
        due(call + " leaves the acts", x.undo() + " " + x.count(4), "true 22");
        due(call + " keeps no image", x.back(), false);
    }

    private static void whatAThrowLeaves() {
        sentence("13, 14, 15, 16, 17, 18, 19, 20, 25, 31, 32, 36", "a call that throws changes nothing but the TAPE, "
            + "where it is used up, "
            + "and fault(), where a text is read (also by one that is refused).");
        leaves("pane", NO_ELEMENT, false, x -> x.pane(0, 8));
        leaves("walker", NO_ELEMENT, false, x -> x.walker(0, 7));
        leaves("likes", ARGUMENT, false, x -> x.likes(0, 0));
        leaves("will", INDEX, false, x -> x.will(0, 3));
        leaves("lights", INDEX, false, x -> x.lights(2, 0));
        leaves("isOpen", ARGUMENT, false, x -> x.isOpen(0, 0));
        leaves("hours(0)", ARGUMENT, false, x -> x.hours(0));
        leaves("hours(61)", ARGUMENT, false, x -> x.hours(61));
        leaves("heads of none", INDEX, false, x -> x.heads(2, 0));
        leaves("heads to none", INDEX, false, x -> x.heads(0, 3));
        leaves("strike", STATE, false, x -> x.strike(0));
        leaves("snuff", STATE, false, x -> x.snuff(2));
        leaves("oil", ARGUMENT, false, x -> x.oil(0, 0));
        leaves("taper", ARGUMENT, false, x -> x.taper(0, 100));
        leaves("like 10", ARGUMENT, false, x -> x.like(0, 1, 10));
        leaves("like oneself", ARGUMENT, false, x -> x.like(0, 0, 1));
        leaves("way", ARGUMENT, false, x -> x.way(0, 0, true));
        leaves("far", INDEX, false, x -> x.far(0, 3));
        leaves("round of no walker", INDEX, true, x -> x.round(2, false));
        leaves("round of no panes", ARGUMENT, true, x -> x.round(0, false));
        leaves("closed", INDEX, false, x -> x.closed(3, 0));
        leaves("whoLit", ARGUMENT, true, PaneStreet::whoLit);
        leaves("ask", ARGUMENT, true, PaneStreet::ask);
        leaves("ring", INDEX, false, x -> x.ring(2));
        leaves("pairs", INDEX, false, x -> x.pairs(2));
        leaves("learnt", ARGUMENT, true, PaneStreet::learnt);
        leaves("share", ARGUMENT, false, x -> x.share(0, 1000));
        leaves("rests", ARGUMENT, false, x -> x.rests(0, 0));
        leaves("odds", ARGUMENT, false, x -> x.odds(7, 0));
        leaves("ahead", ARGUMENT, false, x -> x.ahead(0, 61, 0));
        leaves("trial", ARGUMENT, false, x -> x.trial(61, false));
        leaves("span", ARGUMENT, false, x -> x.span(61, false));
        leaves("led", INDEX, false, x -> x.led(3, false));
        leaves("log", NO_ELEMENT, false, x -> x.log(0, 5));
        PaneStreet x = known();
        String before = Sight.of(x);
        Check.street(x, "pane;x");
        due("a wrong text leaves all", Sight.of(x), before);
        due("but for its fault", x.fault(), 5);
        due("and the tape", x.end(1), false);
        Check.law(x, "kind 3;x");
        due("a wrong law leaves all", Sight.of(x), before);
        due("but for its fault", x.fault(), 7);
        PaneStreet full = new PaneStreet();
        for (int i = 0; i < 12; i++) {
            Check.street(full, i == 0 ? "pane" : "");
        }
        Check.street(full, "fog");
        due("a fault", full.fault(), 3);
        before = Sight.of(full);
        Check.feed(full, "pane");
        Check.throwing("a 13th text", UnsupportedOperationException.class, full::street);
        due("it leaves all", Sight.of(full), before);
        due("it was read, and is right", full.fault(), -1);
        due("it was used up", full.end(1), false);
    }

    private static void noSuch() {
        sentence("7, 8, 9, 10, 11, 12", "IndexOutOfBoundsException: there is no such PANE, WALKER.");
        PaneStreet none = new PaneStreet();
        Check.throwing("without panes", INDEX, () -> none.pane(0, 0));
        Check.throwing("without walkers", INDEX, () -> none.walker(0, 0));
        Check.throwing("far without panes", INDEX, () -> none.far(0, 0));
        Check.throwing("heads without walkers", INDEX, () -> none.heads(0, -1));
        Check.throwing("pairs without walkers", INDEX, () -> none.pairs(0));
        Check.throwing("round without walkers", INDEX, () -> none.round(0, false));
        PaneStreet x = Check.streetOf("pane");
        Check.throwing("one pane, no walker", INDEX, () -> x.will(0, 0));
        due("one pane", x.far(0, 0), 0);
    }

    private static void none() {
        sentence("9, 12, 13, 17, 18, 19, 20, 37, 38, 39, 46, 47, 48", "IllegalArgumentException: a number is none, or two "
            + "are one.");
        PaneStreet x = known();
        Check.throwing("a number", ARGUMENT, () -> x.hours(0));
        due("the next one", x.hours(1), 1);
        Check.throwing("two walkers", ARGUMENT, () -> x.likes(0, 0));
        due("unlike ones", x.likes(0, 1), 7);
        Check.throwing("two panes", ARGUMENT, () -> x.isOpen(2, 2));
        due("unlike ones", x.isOpen(2, 1), true);
        due("far takes one pane twice", x.far(2, 2), 0);
        due("so does closed", x.closed(2, 2), -1);
    }

    private static void cannotBe() {
        sentence("15, 16", "IllegalStateException: it cannot be.");
        PaneStreet x = Check.streetOf("pane;walker at 0 taper 1;walker at 0 taper 1 owns 0");
        Check.throwing("snuffed, but not burning", STATE, () -> x.snuff(0));
        due("lit", x.strike(0), 0);
        due("snuffed", x.snuff(0), 20);
        Check.throwing("lit, but with no taper", STATE, () -> x.strike(0));
    }

    private static void sets() {
        sentence("7, 24, 26, 28, 31, 34, 36, 38, 40, 43, 47", "Sets are bits; of none they count for nothing.");
        PaneStreet x = Check.streetOf("pane;walker at 0 taper 1");
        due("none burning", x.bright(), 0);
        due("none spent", x.spent(), 0);
        due("none that parts", x.bend(), 0);
        due("none that can not be lit", x.never(), 0);
        due("none burning then", x.trial(0, false), 0);
        due("the first", x.pane(0, 4), 1);
        PaneStreet last = Check.streetOf("pane;pane;pane;pane;pane;pane;pane;pane;pane lit");
        due("the last of nine", last.bright(), 256);
        due("the first eight", last.never(), 255);
    }
}
