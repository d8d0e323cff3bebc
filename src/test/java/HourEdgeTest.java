/** The edges of ways and steps, of the course of an hour, of draws, of what is ahead, of acts and of the log. */
public final class HourEdgeTest {
    private static final int TIMES = 1103515245;
    private static final int MORE = 12345;

    private HourEdgeTest() {
    }

    public static void main(String[] args) {
        far();
        steps();
        mist();
        goingOn();
        lighting();
        burningDown();
        hourAndNight();
        draws();
        ahead();
        heading();
        byHand();
        snuffing();
        giving();
        theLog();
        Check.end();
    }

    private static void sentence(String promises, String words) {
        Check.sentence(promises, words);
    }

    private static void due(String call, Object got, Object want) {
        Check.due(call, got, want);
    }

    private static String lines(String line, int times) {
        return (line + ";").repeat(times - 1) + line;
    }

    /** Nine panes in a line, and what is told of them. */
    private static PaneStreet lineOfNine(String more) {
        PaneStreet x = Check.streetOf(lines("pane", 9));
        Check.street(x, "way 0 1;way 1 2;way 2 3;way 3 4;way 4 5;way 5 6;way 6 7;way 7 8");
        due("told: " + more, Check.street(x, more), 3);
        return x;
    }

    private static void far() {
        sentence("21", "FAR of two PANES: the fewest WAYS from the one to the other one; none.");
        PaneStreet x = lineOfNine("");
        for (int pane = 0; pane < 9; pane++) {
            due("to " + pane, x.far(0, pane), pane);
            due("from " + pane, x.far(pane, 8), 8 - pane);
        }
        x.way(0, 8, true);
        due("the fewest of two", x.far(0, 8), 1);
        due("both as far", x.far(0, 4), 4);
        due("the other way round", x.far(0, 5), 4);
        x.way(0, 8, false);
        x.way(4, 5, false);
        due("none", x.far(0, 8), -1);
        due("none by one way", x.far(4, 5), -1);
        due("up to there", x.far(0, 4), 4);
        PaneStreet one = Check.streetOf("pane");
        due("of one pane", one.far(0, 0), 0);
        due("of two without a way", Check.streetOf("pane;pane").far(0, 1), -1);
    }

    private static void steps() {
        sentence("13", "A STEP of a WALKER who HEADS to another PANE to which there is a FAR: to the PANE by a WAY from his whose "
            + "FAR to it is 1 less (of several the least); else he stays.");
        PaneStreet x = lineOfNine("walker at 0 taper 0 heads 8;walker at 8 taper 0 heads 0");
        for (int hour = 1; hour <= 8; hour++) {
            x.hours(1);
            due("one way in hour " + hour, x.walker(0, 0), hour);
            due("and back in hour " + hour, x.walker(1, 0), 8 - hour);
        }
        x.hours(1);
        due("he is there", x.walker(0, 0), 8);
        PaneStreet no = Check.streetOf("pane;pane;pane;walker at 0 taper 0 heads 2;walker at 0 taper 0;way 0 1");
        no.hours(60);
        due("no far: he stays", no.walker(0, 0), 0);
        due("and heads on", no.walker(0, 2), 2);
        due("who heads to none stays", no.walker(1, 0), 0);
        no.way(1, 2, true);
        no.hours(1);
        due("when a way is opened, he goes", no.walker(0, 0), 1);
        PaneStreet two = Check.streetOf("pane;pane;pane;pane;pane;walker at 0 taper 0 heads 4;way 0 3;way 0 2;way 0 1;way "
            + "3 4;way 2 4");
        two.hours(1);
        due("of several the least", two.walker(0, 0), 2);
        PaneStreet far = Check.streetOf("pane;pane;pane;pane;walker at 3 taper 0 heads 2;way 3 0;way 0 1;way 1 2;way 3 2");
        far.hours(1);
        due("not by the lesser one that is farther", far.walker(0, 0), 2);
    }

    /** The seed from which one draw leads to this one. */
    private static int seedAhead(int seed) {
        int inverse = TIMES;
        for (int i = 0; i < 5; i++) {
            inverse *= 2 - TIMES * inverse;
        }
        return (seed - MORE) * inverse;
    }

    private static int mistBy(int fog, int seedThen) {
        PaneStreet x = Check.streetOf("fog " + fog);
        x.seed(seedAhead(seedThen));
        x.hours(1);
        int mist = x.count(7);
        due("the seed then", x.seed(1), seedThen);
        return mist;
    }

    private static void mist() {
        sentence("13", "AN HOUR more: (a) if DRAW modulo 100 is below FOG, there is MIST, else not;");
        for (int draw = 0; draw < 100; draw++) {
            int seedThen = draw << 16;
            if (draw > 0) {
                due("fog is 1 less than draw " + draw, mistBy(draw - 1, seedThen), 0);
            }
            due("fog is draw " + draw, mistBy(draw, seedThen), 0);
            due("fog is 1 more than draw " + draw, mistBy(draw + 1, seedThen), 1);
        }
        due("draw 100 is 0", mistBy(1, 100 << 16), 1);
        due("draw 100 is not below 0", mistBy(0, 100 << 16), 0);
        due("draw 199 is 99", mistBy(99, 199 << 16), 0);
        due("draw 199 is below 100", mistBy(100, 199 << 16), 1);
        PaneStreet x = Check.streetOf("fog 100");
        x.hours(1);
        Check.street(x, "fog 0");
        x.hours(1);
        due("else not", x.count(7), 0);
    }

    private static void goingOn() {
        sentence("13", "(b) each WALKER, by numbers, if there is no MIST: he makes a STEP; if he is AT the PANE to which he HEADS "
            + "then, he HEADS to none;");
        PaneStreet x = Check.streetOf("pane;pane;pane;walker at 0 taper 0 heads 2;walker at 1 taper 0 heads 2;"
            + "walker at 2 taper 0 heads 2;way 0 1;way 1 2;fog 100");
        x.hours(60);
        due("in mist nobody goes", x.walker(0, 0) + "" + x.walker(1, 0) + x.walker(2, 0), "012");
        due("in mist all head on", x.walker(0, 2) + "" + x.walker(1, 2), "22");
        Check.street(x, "fog 0");
        x.hours(1);
        due("all go at once", x.walker(0, 0) + "" + x.walker(1, 0) + x.walker(2, 0), "122");
        due("2 ways: he heads on", x.walker(0, 2), 2);
        due("1 way: he heads to none", x.walker(1, 2), -1);
        due("0 ways: he heads to none", x.walker(2, 2), -1);
        x.hours(1);
        due("an hour later, too", x.walker(0, 2), -1);
    }

    private static void lighting() {
        sentence("13", "(c) each WALKER, by numbers: if he LIGHTS the LAMP of the PANE where he is (by all as it is then): it is "
            + "BURNING, DARK 0, TAPER is 1 less, LIT 1 more (999 at most), and its OWNER, if there is one, LIKES him 1 more "
            + "(9 at most);");
        PaneStreet x = Check.streetOf("pane;pane;walker at 1 taper 1 owns 0;walker at 0 taper 1;walker at 0 taper 1;likes "
            + "0 1 3", "pass if hour<1");
        x.hours(1);
        due("nobody in the first hour", x.bright(), 0);
        due("dark", x.pane(0, 3), 1);
        due("two lamps in the next", x.hours(1), 2);
        due("both burning", x.bright(), 0b11);
        due("dark 0", x.pane(0, 3), 0);
        due("the first by numbers lit it", x.walker(1, 3), 1);
        due("not the other one", x.walker(2, 3), 0);
        due("one taper less", x.walker(1, 1), 0);
        due("the other one keeps his", x.walker(2, 1), 1);
        due("its owner likes him", x.likes(0, 1), 4);
        due("he does not like its owner more", x.likes(1, 0), 5);
        due("nobody likes who lit one without an owner", x.likes(1, 0) + x.likes(2, 0), 10);
        for (int likes : new int[] {0, 7, 8, 9}) {
            PaneStreet y = Check.streetOf("pane;walker at 0 taper 0 owns 0;walker at 0 taper 1;likes 0 1 " + likes);
            y.hours(1);
            due("likes 1 more than " + likes, y.likes(0, 1), Math.min(likes + 1, 9));
        }
        PaneStreet thanks = Check.streetOf("pane;pane;walker at 1 taper 1 owns 0;walker at 0 taper 1 owns 1;likes 1 0 4;"
            + "likes 0 1 5");
        due("by likes of 1 more that came ahead of him in this hour", thanks.hours(1), 2);
        PaneStreet later = Check.streetOf("pane;pane;walker at 1 taper 1 owns 0;walker at 0 taper 1 owns 1;likes 1 0 5;"
            + "likes 0 1 4");
        due("not by what comes behind him", later.hours(1), 1);
        due("but an hour later", later.hours(1), 1);
        for (int will = 4; will <= 6; will++) {
            due("a will of " + will, Check.streetOf("pane;walker at 0 taper 1", will < 5 ? "cold 1" : "kind " + (will - 5)).hours(1),
                will < 5 ? 0 : 1);
        }
    }

    private static void burningDown() {
        sentence("13", "(d) each PANE, by numbers: if it is BURNING: OIL is 1 less, with OIL 0 then it is not BURNING any more; "
            + "if it is not BURNING (by that, too): DARK is 1 more (99 at most).");
        PaneStreet x = Check.streetOf("pane oil 1 lit;pane oil 2 lit;pane oil 3 lit;pane oil 0;pane oil 1");
        x.hours(1);
        due("oil", x.pane(0, 0) + "" + x.pane(1, 0) + x.pane(2, 0) + x.pane(3, 0) + x.pane(4, 0), "01201");
        due("what was 1 burns no more", x.bright(), 0b00110);
        due("dark by that, too", x.pane(0, 3) + "" + x.pane(1, 3) + x.pane(2, 3) + x.pane(3, 3) + x.pane(4, 3), "10011");
        x.hours(1);
        due("what was 2", x.bright(), 0b00100);
        due("oil is not below 0", x.pane(0, 0) + x.pane(3, 0), 0);
        due("dark 2 and 1", x.pane(0, 3) + "" + x.pane(1, 3), "21");
        PaneStreet same = Check.streetOf("pane oil 1;walker at 0 taper 1");
        due("lit and burnt out in one hour", same.hours(1), 1);
        due("burns no more", same.bright(), 0);
        due("dark 1", same.pane(0, 3), 1);
        due("two rows", same.count(11), 2);
        same.hours(60);
        same.hours(38);
        due("99", same.pane(0, 3), 99);
        same.hours(1);
        due("99 at most", same.pane(0, 3), 99);
    }

    private static void hourAndNight() {
        sentence("13", "HOUR is 1 more; behind 23 it is 0, and NIGHT is 1 more (9999 at most).");
        PaneStreet x = Check.streetOf("hour 22;night 998");
        x.hours(1);
        due("23", x.count(4) + " " + x.count(5), "23 998");
        x.hours(1);
        due("0", x.count(4) + " " + x.count(5), "0 999");
        x.hours(23);
        due("23 again", x.count(4) + " " + x.count(5), "23 999");
        x.hours(2);
        due("1", x.count(4) + " " + x.count(5), "1 1000");
        x.hours(60);
        due("two nights and a half", x.count(4) + " " + x.count(5), "13 1002");
    }

    private static void draws() {
        sentence("13, 51", "DRAW: SEED is 1103515245 times SEED and 12345, as an int that goes round; bits 16 to 30 (SEED "
            + "1 at first).");
        PaneStreet x = new PaneStreet();
        x.hours(1);
        due("from 1", x.seed(0), 1103527590);
        x.hours(1);
        due("from 0", x.seed(Integer.MAX_VALUE), 12345);
        x.hours(1);
        due("it goes round from the greatest", x.seed(Integer.MIN_VALUE), 1043980748);
        x.hours(1);
        due("it goes round from the least", x.seed(-1), -2147471303);
        x.hours(1);
        due("from below 0", x.seed(1), -1103502900);
        x.hours(60);
        int seed = 1;
        for (int i = 0; i < 60; i++) {
            seed = seed * TIMES + MORE;
        }
        due("one draw each hour", x.seed(1), seed);
        due("bits 0 to 15 are no matter", mistBy(1, 0x0000ffff), 1);
        due("bit 31 is no matter", mistBy(1, 0x80000000), 1);
        due("bits 16 to 30 are all there are", mistBy(1, 0x8000ffff), 1);
        due("bit 16 is 1", mistBy(1, 0x00010000), 0);
        due("bit 16 is 1, below 2", mistBy(2, 0x8001ffff), 1);
        due("bit 30 is 16384, so 84", mistBy(84, 0x40000000), 0);
        due("84 is below 85", mistBy(85, 0x40000000), 1);
        due("all of them are 32767, so 67", mistBy(67, 0x7fff0000), 0);
        due("67 is below 68", mistBy(68, 0x7fff0000), 1);
        due("with bit 31, too", mistBy(67, 0xffffffff), 0);
        due("below 68 with bit 31", mistBy(68, 0xffffffff), 1);
    }

    private static void ahead() {
        sentence("46", "AHEAD by N HOURS (0 to 60): as so many HOURS without MIST (no DRAWS; MIST is not then).");
        PaneStreet x = Check.streetOf("pane;pane;walker at 0 taper 9 heads 1;way 0 1;fog 100", "pass if misty");
        x.hours(1);
        due("mist now", x.count(7), 1);
        int seed = x.seed(1);
        x.seed(seed);
        due("now", x.ahead(1, 0, 1), 0);
        due("he goes on, and there is no mist", x.ahead(1, 1, 1), 1);
        due("dark now", x.ahead(0, 0, 2), 1);
        due("59", x.ahead(0, 59, 2), 60);
        due("60", x.ahead(0, 60, 2), 61);
        Check.bounds("ahead", 0, 60, IllegalArgumentException.class, n -> x.ahead(0, n, 0));
        due("no draws", x.seed(seed), seed);
        due("the mist stays", x.count(7), 1);
        due("so does he", x.walker(0, 0), 0);
        PaneStreet same = Check.streetOf("pane oil 30 lit;pane;walker at 1 taper 3");
        for (int n : new int[] {1, 29, 30, 31, 59, 60}) {
            PaneStreet y = Check.streetOf("pane oil 30 lit;pane;walker at 1 taper 3");
            y.hours(n);
            for (int pane = 0; pane < 2; pane++) {
                due("oil by " + n, same.ahead(pane, n, 0), y.pane(pane, 0));
                due("burning by " + n, same.ahead(pane, n, 1), y.pane(pane, 1));
                due("dark by " + n, same.ahead(pane, n, 2), y.pane(pane, 3));
            }
        }
    }

    private static void heading() {
        sentence("13, 14, 52", "ACTS: HOURS; a WALKER HEADS to a PANE (to where he is, too, till the next (b)), or to none;");
        PaneStreet x = Check.streetOf("pane;pane;walker at 0 taper 0;way 0 1");
        due("hours are an act", x.hours(1) + x.count(12), 1);
        due("to where he is", x.heads(0, 0), -1);
        due("he does", x.walker(0, 2), 0);
        due("that is one", x.count(12), 2);
        x.hours(1);
        due("till the next hour", x.walker(0, 2), -1);
        due("to another one", x.heads(0, 1), -1);
        due("to none", x.heads(0, -1), 1);
        due("to none again", x.heads(0, -1), -1);
        x.hours(1);
        due("he stays", x.walker(0, 0), 0);
    }

    private static void byHand() {
        sentence("13, 15", "he lights by hand the LAMP where he is (WILL and PASSING BY are no matter, else as in (c); one without "
            + "an OWNER, too; HEADS stays);");
        for (int likes : new int[] {0, 4, 8, 9}) {
            PaneStreet x = Check.streetOf("pane;walker at 0 taper 0 owns 0;walker at 0 taper 2 heads 0;likes 1 0 0;likes "
                + "0 1 " + likes,
                "pass;cold 20");
            x.hours(1);
            x.heads(1, 0);
            due("he would not", x.lights(1, 0), false);
            due("he does by hand", x.strike(1), 1);
            due("burning", x.pane(0, 1), 1);
            due("dark 0", x.pane(0, 3), 0);
            due("lit", x.walker(1, 3), 1);
            due("heads stays", x.walker(1, 2), 0);
            due("likes 1 more than " + likes, x.likes(0, 1), Math.min(likes + 1, 9));
            due("his likes stay", x.likes(1, 0), 0);
            due("oil stays", x.pane(0, 0), 20);
        }
        PaneStreet free = Check.streetOf("pane oil 1;walker at 0 taper 1;walker at 0 taper 0", "pass");
        due("one without an owner", free.strike(0), 0);
        due("nobody likes him more", free.likes(1, 0), 5);
    }

    private static void snuffing() {
        sentence("13, 16", "an OWNER snuffs his LAMP (it is not BURNING; DARK is 0 yet);");
        PaneStreet x = Check.streetOf("pane oil 1;pane;walker at 0 taper 0 owns 0;walker at 0 taper 1");
        x.hours(1);
        x.oil(0, 1);
        due("dark by burning out", x.pane(0, 3), 1);
        x.taper(1, 1);
        x.strike(1);
        due("snuffed", x.snuff(0), 1);
        due("not burning", x.bright(), 0);
        due("dark is 0 yet", x.pane(0, 3), 0);
        due("oil stays", x.pane(0, 0), 1);
        x.hours(1);
        due("nobody has a taper", x.pane(0, 3), 1);
    }

    private static void giving() {
        sentence("13, 17, 18, 19, 20", "OIL is given to a LAMP (99 at most); a TAPER is bought (99 at most); LIKES are "
            + "told; a WAY is "
            + "opened, or closed.");
        PaneStreet x = Check.streetOf("pane oil 97;pane;walker at 0 taper 97;walker at 0 taper 0");
        due("98 of oil", x.oil(0, 1), 98);
        due("99 of oil", x.oil(0, 1), 99);
        due("no more oil", x.oil(0, 1), 99);
        due("no more oil by many", x.oil(0, 99), 99);
        due("98 tapers", x.taper(0, 1), 98);
        due("99 tapers", x.taper(0, 1), 99);
        due("no more tapers", x.taper(0, 1), 99);
        due("no more tapers by many", x.taper(0, 99), 99);
        x.oil(1, 78);
        due("98 by many", x.pane(1, 0), 98);
        x.oil(1, 2);
        due("2 more than 98", x.pane(1, 0), 99);
        due("told 0", x.like(0, 1, 0) + " " + x.likes(0, 1), "5 0");
        due("told 9", x.like(0, 1, 9) + " " + x.likes(0, 1), "0 9");
        due("opened", x.way(0, 1, true) + " " + x.isOpen(0, 1), "true true");
        due("closed", x.way(0, 1, false) + " " + x.isOpen(0, 1), "true false");
        due("all of them are acts", x.count(12), 12);
    }

    private static void rowIs(PaneStreet x, int ago, int... row) {
        for (int what = 0; what < 5; what++) {
            due("row " + ago + " ago, what " + what, x.log(ago, what), row[what]);
        }
    }

    private static void theLog() {
        sentence("49, 50, 55", "THE LOG: in the order in which it came about, the latest 60 times that a LAMP was lit (0 "
            + "in an HOUR, "
            + "1 by hand), burnt out (2), was snuffed (3): NIGHT, HOUR, 0 to 3, the PANE, the WALKER (none of 2).");
        PaneStreet x = lineOfNine("walker at 8 taper 9 owns 0;walker at 8 taper 0;walker at 7 taper 0;walker at 0 taper 9;"
            + "walker at 7 taper 0;walker at 7 taper 9;hour 23;night 999");
        due("empty", x.count(11), 0);
        due("none", x.log(0, 0), -2);
        x.strike(3);
        rowIs(x, 0, 999, 23, 1, 0, 3);
        due("one row", x.log(1, 0), -2);
        x.snuff(0);
        rowIs(x, 0, 999, 23, 3, 0, 0);
        rowIs(x, 1, 999, 23, 1, 0, 3);
        x.hours(1);
        rowIs(x, 2, 999, 23, 0, 8, 0);
        rowIs(x, 1, 999, 23, 0, 0, 3);
        rowIs(x, 0, 999, 23, 0, 7, 5);
        x.hours(20);
        rowIs(x, 2, 1000, 18, 2, 0, -1);
        rowIs(x, 1, 1000, 18, 2, 7, -1);
        rowIs(x, 0, 1000, 18, 2, 8, -1);
        due("eight rows", x.count(11), 8);
        PaneStreet many = Check.streetOf("pane oil 99;pane lit;walker at 0 taper 0 owns 0;walker at 0 taper 99");
        for (int i = 0; i < 29; i++) {
            many.strike(1);
            many.snuff(0);
        }
        due("58 rows", many.count(11), 58);
        many.hours(1);
        due("59 rows", many.count(11), 59);
        due("the first one", many.log(58, 2), 1);
        due("none ahead of it", many.log(59, 2), -2);
        many.snuff(0);
        due("60 rows", many.count(11), 60);
        due("the first one yet", many.log(59, 2), 1);
        due("none ahead of it yet", many.log(60, 2), -2);
        many.strike(1);
        due("60 rows and one", many.count(11), 60);
        due("the second one", many.log(59, 2), 3);
        due("not the first one", many.log(60, 2), -2);
        due("the latest one", many.log(0, 2), 1);
        many.hours(60);
        due("its oil burns, and that of the other one", many.log(0, 3) + " " + many.log(0, 2), "1 2");
        due("60 rows at last", many.count(11), 60);
        due("the third one", many.log(59, 2), 1);
    }
}
