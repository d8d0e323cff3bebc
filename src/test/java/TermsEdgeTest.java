/**
 * What holds for all of the street, and the edges of what there is: panes, walkers and their numbers, the hour,
 * the night and the fog.
 */
public final class TermsEdgeTest {
    private static final Class<IllegalArgumentException> ARGUMENT = IllegalArgumentException.class;
    private static final String REFUSED = "throws IllegalArgumentException";

    private TermsEdgeTest() {
    }

    public static void main(String[] args) {
        noneByItsOwner();
        atMost512Calls();
        panes();
        oilOfALamp();
        darkness();
        ways();
        walkers();
        tapers();
        likes();
        headsAndLit();
        timeAndFog();
        Check.end();
    }

    private static void sentence(String promises, String words) {
        Check.sentence(promises, words);
    }

    private static void due(String call, Object got, Object want) {
        Check.due(call, got, want);
    }

    private static String lines(String line, int times) {
        return (line + ";").repeat(times - 1) + line;
    }

    /** Six walkers, each where his own lamp is, who would light all others; three lamps are nobody's. */
    private static void noneByItsOwner() {
        sentence("7, 8, 11, 13, 15, 46, 47", "A harbour street in which no lamp may be lit by its owner");
        PaneStreet x = new PaneStreet();
        StringBuilder walkers = new StringBuilder();
        for (int walker = 0; walker < 6; walker++) {
            walkers.append(";walker at ").append(walker).append(" taper 9 owns ").append(walker);
        }
        due("panes", Check.street(x, lines("pane", 9)), 1);
        due("walkers", Check.street(x, walkers.substring(1)), 2);
        due("all of them are kind", Check.law(x, "kind 20"), 1);
        for (int walker = 0; walker < 6; walker++) {
            int one = walker;
            due("he would not light his own", x.lights(one, one), false);
            due("all others would", x.pane(one, 4), 0b111111 & ~(1 << one));
            due("it stays dark by hours ahead", x.pane(one, 5), -1);
            Check.throwing("by hand", IllegalStateException.class, () -> x.strike(one));
        }
        due("nobody's by all", x.pane(8, 4), 0b111111);
        due("in a trial", x.trial(60, false), 0);
        due("in sixty hours", x.hours(60), 0);
        due("nobody lit one", x.count(9), 0);
        x.way(0, 6, true);
        x.heads(0, 6);
        due("one who goes to nobody's", x.hours(1), 1);
        due("lights it", x.bright(), 1 << 6);
    }

    private static void atMost512Calls() {
        sentence("13, 52, 55", "An object is used for at most 512 calls after it has been made;");
        PaneStreet x = new PaneStreet();
        for (int calls = 0; calls < 510; calls++) {
            x.hours(60);
        }
        due("the 511th", x.undo(), true);
        due("the 512th", x.count(5), 509 * 60 / 24);
    }

    private static void panes() {
        sentence("4, 7, 55", "PANES (at most 9, numbered from 0 on)");
        PaneStreet x = new PaneStreet();
        Check.throwing("pane 0 of none", IndexOutOfBoundsException.class, () -> x.pane(0, 0));
        due("8 panes", Check.street(x, lines("pane", 8)), 1);
        due("there are 8", x.count(0), 8);
        Check.indexes("of 8", 8, n -> x.pane(n, 0));
        due("the 9th", Check.street(x, "pane oil 3"), 2);
        due("it has the number 8", x.pane(8, 0), 3);
        Check.indexes("of 9", 9, n -> x.pane(n, 0));
        due("the 10th", Check.street(x, "pane"), REFUSED);
        due("its first word is wrong", x.fault(), 0);
        due("there are 9", x.count(0), 9);
        due("9 in one text", Check.streetOf(lines("pane", 9)).count(0), 9);
        PaneStreet ten = new PaneStreet();
        due("10 in one text", Check.street(ten, lines("pane", 10)), REFUSED);
        due("the 10th is wrong", ten.fault(), 45);
        due("none is there", ten.count(0), 0);
    }

    private static void oilOfALamp() {
        sentence("7", "a LAMP with OIL 0 to 99");
        PaneStreet x = Check.streetOf("pane oil 0;pane oil 1 lit;pane oil 98;pane oil 99");
        due("0", x.pane(0, 0), 0);
        due("1", x.pane(1, 0), 1);
        due("98", x.pane(2, 0), 98);
        due("99", x.pane(3, 0), 99);
        due("100", Check.street(x, "pane oil 100"), REFUSED);
        x.hours(2);
        due("1 burns down to 0, and no farther", x.pane(1, 0), 0);
        due("98 and 1", x.oil(2, 1), 99);
        due("99 and 1", x.oil(2, 1), 99);
        due("0 and 99", x.oil(0, 99), 99);

        sentence("7", "BURNING or not (not at first)");
        PaneStreet b = Check.streetOf("pane;pane lit");
        due("not at first", b.pane(0, 1), 0);
        due("told as lit", b.pane(1, 1), 1);

        sentence("7", "an OWNER (a WALKER) or none (at first)");
        PaneStreet o = Check.streetOf("pane;pane;" + lines("walker at 0 taper 0", 5) + ";walker at 0 taper 0 owns 1");
        due("none at first", o.pane(0, 2), PaneStreet.NONE);
        due("the last walker", o.pane(1, 2), 5);
        due("the first walker", Check.streetOf("pane;walker at 0 taper 0 owns 0").pane(0, 2), 0);

        sentence("7, 55", "OIL of a LAMP is 20 at first.");
        due("20", Check.streetOf("pane").pane(0, 0), 20);
        due("20 of a lit one", Check.streetOf("pane lit").pane(0, 0), 20);
        due("20 burn for 20 hours", Check.streetOf("pane lit").out(), 20);
    }

    private static void darkness() {
        sentence("7", "DARK: hours one behind another that it does not burn, 0 to 99 (0 at first)");
        PaneStreet d = Check.streetOf("pane oil 1;walker at 0 taper 0");
        due("0 at first", d.pane(0, 3), 0);
        d.hours(1);
        due("1", d.pane(0, 3), 1);
        d.hours(60);
        d.hours(37);
        due("98", d.pane(0, 3), 98);
        d.hours(1);
        due("99", d.pane(0, 3), 99);
        d.hours(1);
        due("99 an hour later", d.pane(0, 3), 99);
        d.hours(60);
        due("99 at last", d.pane(0, 3), 99);
        due("99 ahead", d.ahead(0, 60, 2), 99);
        d.taper(0, 2);
        d.strike(0);
        due("0 when it is lit", d.pane(0, 3), 0);
        d.hours(1);
        due("it begins anew by burning out", d.pane(0, 3), 1);
        PaneStreet s = Check.streetOf("pane lit;walker at 0 taper 0 owns 0");
        s.hours(2);
        due("0 while it burns", s.pane(0, 3), 0);
        s.snuff(0);
        due("0 as it is snuffed", s.pane(0, 3), 0);
        s.hours(2);
        due("2 hours one behind another", s.pane(0, 3), 2);
    }

    private static void ways() {
        sentence("12, 20, 55", "WAYS between two PANES: open or not (not at first).");
        PaneStreet x = Check.streetOf(lines("pane", 9));
        due("not at first", x.isOpen(0, 8), false);
        due("none of all", x.count(10), 0);
        int ways = 0;
        for (int pane = 0; pane < 9; pane++) {
            for (int other = pane + 1; other < 9; other++) {
                due("opened " + pane + " " + other, x.way(other, pane, true), true);
                ways++;
                due("ways", x.count(10), ways);
            }
        }
        due("all 36", x.count(10), 36);
        due("open", x.isOpen(0, 8), true);
        due("closed", x.way(0, 8, false), true);
        due("35", x.count(10), 35);
        due("not open", x.isOpen(8, 0), false);
        due("its neighbour is", x.isOpen(7, 0), true);
    }

    private static void walkers() {
        sentence("4, 8, 55", "WALKERS (at most 6, numbered from 0 on)");
        PaneStreet x = Check.streetOf("pane");
        Check.throwing("walker 0 of none", IndexOutOfBoundsException.class, () -> x.walker(0, 0));
        due("5 walkers", Check.street(x, lines("walker at 0 taper 1", 5)), 2);
        due("there are 5", x.count(1), 5);
        Check.indexes("of 5", 5, n -> x.walker(n, 0));
        due("the 6th", Check.street(x, "walker at 0 taper 7"), 3);
        due("it has the number 5", x.walker(5, 1), 7);
        Check.indexes("of 6", 6, n -> x.walker(n, 0));
        due("the 7th", Check.street(x, " walker at 0 taper 1"), REFUSED);
        due("its first word is wrong", x.fault(), 1);
        due("there are 6", x.count(1), 6);
        due("6 in one text", Check.streetOf("pane;" + lines("walker at 0 taper 1", 6)).count(1), 6);
        PaneStreet seven = new PaneStreet();
        due("7 in one text", Check.street(seven, "pane;" + lines("walker at 0 taper 1", 7)), REFUSED);
        due("the 7th is wrong", seven.fault(), 5 + 6 * 20);
        due("none is there", seven.count(1), 0);

        sentence("4, 8", "AT a PANE");
        PaneStreet at = Check.streetOf(lines("pane", 9) + ";walker at 0 taper 0;walker at 8 taper 0");
        due("at the first one", at.walker(0, 0), 0);
        due("at the last one", at.walker(1, 0), 8);
        due("at none", Check.street(at, "walker at 9 taper 0"), REFUSED);
    }

    private static void tapers() {
        sentence("8, 18", "TAPER 0 to 99 (how many lamps it lights yet)");
        PaneStreet x = Check.streetOf("pane;walker at 0 taper 0;walker at 0 taper 1;walker at 0 taper 98;walker at 0 taper 99");
        due("0", x.walker(0, 1), 0);
        due("1", x.walker(1, 1), 1);
        due("98", x.walker(2, 1), 98);
        due("99", x.walker(3, 1), 99);
        due("100", Check.street(x, "walker at 0 taper 100"), REFUSED);
        due("98 and 1", x.taper(2, 1), 99);
        due("99 and 1", x.taper(2, 1), 99);
        due("0 and 99", x.taper(0, 99), 99);
        for (int taper = 0; taper <= 3; taper++) {
            PaneStreet t = Check.streetOf("pane;pane;pane;walker at 0 taper " + taper + " heads 2;way 0 1;way 1 2");
            due("lamps lit of two by a taper of " + taper, t.hours(5), Math.min(taper, 2));
            due("what is left of " + taper, t.walker(0, 1), Math.max(taper - 2, 0));
        }
    }

    private static void likes() {
        sentence("9, 19", "LIKES of each other one 0 to 9 (5 at first)");
        PaneStreet x = Check.streetOf("pane;" + lines("walker at 0 taper 0", 6));
        for (int walker = 0; walker < 6; walker++) {
            for (int other = 0; other < 6; other++) {
                if (walker != other) {
                    due("5 at first of " + walker + " and " + other, x.likes(walker, other), 5);
                }
            }
        }
        for (int likes : new int[] {0, 1, 8, 9}) {
            x.like(0, 5, likes);
            due("told " + likes, x.likes(0, 5), likes);
            due("told in a text " + likes, Check.street(x, "likes 5 0 " + likes) + " " + x.likes(5, 0),
                x.count(2) + " " + likes);
        }
        Check.throwing("-1", ARGUMENT, () -> x.like(0, 5, -1));
        Check.throwing("10", ARGUMENT, () -> x.like(0, 5, 10));
        due("10 in a text", Check.street(x, "likes 5 0 10"), REFUSED);
        due("they stay", x.likes(0, 5), 9);
    }

    private static void headsAndLit() {
        sentence("8, 14", "HEADS: a PANE to which he goes, or none (at first)");
        PaneStreet x = Check.streetOf(lines("pane", 9) + ";walker at 4 taper 2 heads 0;walker at 4 taper 0 heads 8;walker "
            + "at 4 taper 0");
        due("to the first one", x.walker(0, 2), 0);
        due("to the last one", x.walker(1, 2), 8);
        due("to none at first", x.walker(2, 2), PaneStreet.NONE);

        sentence("8, 55", "LIT: how many he lit, 0 to 999 (0 at first).");
        due("0 at first", x.walker(0, 3), 0);
        x.strike(0);
        due("1", x.walker(0, 3), 1);
        x.heads(0, 5);
        x.way(4, 5, true);
        x.hours(1);
        due("2", x.walker(0, 3), 2);
        due("2 of all", x.count(9), 2);
        due("0 of another one", x.walker(1, 3), 0);
    }

    private static void timeAndFog() {
        sentence("4, 55", "HOUR 0 to 23 (0 at first)");
        PaneStreet x = new PaneStreet();
        due("0 at first", x.count(4), 0);
        for (int hour : new int[] {0, 1, 22, 23}) {
            due("told " + hour, Check.street(x, "hour " + hour), x.count(2));
            due("hour " + hour, x.count(4), hour);
        }
        due("told 24", Check.street(x, "hour 24"), REFUSED);
        x.hours(1);
        due("behind 23 it begins anew", x.count(4), 0);
        x.hours(1);
        due("and goes on", x.count(4), 1);

        sentence("4, 55", "NIGHT 0 to 9999 (0 at first).");
        PaneStreet n = new PaneStreet();
        due("0 at first", n.count(5), 0);
        Check.street(n, "night 999;hour 23");
        due("999 at most can be told", n.count(5), 999);
        n.hours(1);
        due("hours lead above what can be told", n.count(5), 1000);

        sentence("4, 55", "FOG 0 to 100 (0 at first)");
        PaneStreet f = new PaneStreet();
        due("0 at first", f.count(6), 0);
        for (int fog : new int[] {1, 99, 100, 0}) {
            due("told " + fog, Check.street(f, "fog " + fog), f.count(2));
            due("fog " + fog, f.count(6), fog);
            f.hours(60);
            due("an hour of fog " + fog, fog % 100 != 0 || f.count(7) == fog / 100, true);
        }
        due("told 101", Check.street(f, "fog 101"), REFUSED);
        due("it stays", f.count(6), 0);

        sentence("55", "MIST: whether there is fog now (not at first).");
        PaneStreet m = Check.streetOf("fog 100");
        due("not at first", m.count(7), 0);
        m.hours(1);
        due("by an hour of fog 100", m.count(7), 1);
        Check.street(m, "fog 0");
        due("not by being told", m.count(7), 1);
        m.hours(1);
        due("not by an hour of fog 0", m.count(7), 0);
    }
}
