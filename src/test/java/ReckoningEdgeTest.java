import java.util.Arrays;

/** The edges of what is reckoned: SIDES, PAIRS, LEARNT, SHARE, RESTS, ODDS, sums, trials, spans and LED. */
public final class ReckoningEdgeTest {
    private static final String REFUSED = "throws IllegalArgumentException";
    private static final Class<IllegalArgumentException> ARGUMENT = IllegalArgumentException.class;

    private ReckoningEdgeTest() {
    }

    public static void main(String[] args) {
        sides();
        pairs();
        learnt();
        lasts();
        share();
        rests();
        odds();
        brightAndGloom();
        lamplighterAndSpent();
        crowdAndAlike();
        part();
        trial();
        span();
        led();
        Check.end();
    }

    private static void sentence(String promises, String words) {
        Check.sentence(promises, words);
    }

    private static void due(String call, Object got, Object want) {
        Check.due(call, got, want);
    }

    private static String lines(String line, int times) {
        return (line + ";").repeat(times - 1) + line;
    }

    private static PaneStreet walkersAtOne(int walkers) {
        return Check.streetOf(walkers == 0 ? "pane" : "pane;" + lines("walker at 0 taper 0", walkers));
    }

    private static void sides() {
        sentence("34", "SIDES: WALKERS put on two sides so that LIKES (of both ways) of pairs on one side together are "
            + "the most, both sides "
            + "having somebody: those of the second side (0 is of the first), of several the least as bits; none with "
            + "fewer than two.");
        due("none", walkersAtOne(0).sides(), -1);
        due("one", walkersAtOne(1).sides(), -1);
        due("two", walkersAtOne(2).sides(), 0b10);
        due("three", walkersAtOne(3).sides(), 0b010);
        due("six", walkersAtOne(6).sides(), 0b000010);
        PaneStreet x = walkersAtOne(6);
        for (int walker = 0; walker < 6; walker++) {
            for (int other = 0; other < 6; other++) {
                if (walker != other) {
                    x.like(walker, other, walker < 5 && other < 5 ? 9 : 0);
                }
            }
        }
        due("the last one alone", x.sides(), 0b100000);
        PaneStreet y = walkersAtOne(6);
        for (int other = 1; other < 6; other++) {
            y.like(0, other, 0);
            y.like(other, 0, 0);
        }
        due("all but the first one", y.sides(), 0b111110);
        PaneStreet ways = walkersAtOne(3);
        ways.like(0, 1, 9);
        due("by one way: 14, 10 and 10", ways.sides(), 0b100);
        ways.like(2, 1, 9);
        due("14, 14 and 10: of several the least", ways.sides(), 0b100);
        ways.like(1, 2, 6);
        due("14, 15 and 10", ways.sides(), 0b110);
        ways.like(1, 0, 6);
        due("15, 15 and 10", ways.sides(), 0b100);
    }

    private static void pairs() {
        sentence("35", "PAIRS: WALKERS two by two, each in one such pair at most, so that LIKES of both of one another "
            + "are together the most, "
            + "and only such as have a FAR: how much; with whom one is in the first such way (one by one, none being the "
            + "least, then "
            + "the others); none.");
        int[] most = {0, 0, 10, 10, 20, 20, 30};
        for (int walkers = 0; walkers <= 6; walkers++) {
            due("how much of " + walkers, walkersAtOne(walkers).pairs(-1), most[walkers]);
        }
        due("one alone", walkersAtOne(1).pairs(0), -1);
        due("two", walkersAtOne(2).pairs(0) + " " + walkersAtOne(2).pairs(1), "1 0");
        PaneStreet five = walkersAtOne(5);
        due("of five the first is with none", five.pairs(0), -1);
        due("the second with the third", five.pairs(1) + " " + five.pairs(2), "2 1");
        due("the fourth with the fifth", five.pairs(3) + " " + five.pairs(4), "4 3");
        PaneStreet six = walkersAtOne(6);
        due("the fifth with the sixth", six.pairs(4) + " " + six.pairs(5), "5 4");
        six.like(0, 5, 6);
        due("one more", six.pairs(-1), 31);
        due("the first with the last", six.pairs(0) + " " + six.pairs(5), "5 0");
        PaneStreet alone = walkersAtOne(5);
        for (int other = 1; other < 5; other++) {
            alone.like(0, other, 0);
            alone.like(other, 0, 0);
        }
        due("the first one alone is best", alone.pairs(-1) + " " + alone.pairs(0), "20 -1");
        due("the others", alone.pairs(1) + " " + alone.pairs(2) + " " + alone.pairs(3) + " " + alone.pairs(4), "2 1 4 3");
        PaneStreet chain = walkersAtOne(4);
        int[][] likes = {{0, 1, 9}, {1, 0, 9}, {1, 2, 9}, {2, 1, 8}, {0, 2, 0}, {2, 0, 0}, {0, 3, 0}, {3, 0, 0}, {1, 3, 0}, {3, 1, 0}};
        for (int[] one : likes) {
            chain.like(one[0], one[1], one[2]);
        }
        due("18 and 10 are more than 17", chain.pairs(-1), 28);
        due("each in one pair", chain.pairs(0) + " " + chain.pairs(1) + " " + chain.pairs(2) + " " + chain.pairs(3), "1 0 3 2");
        PaneStreet cold = walkersAtOne(2);
        cold.like(0, 1, 0);
        cold.like(1, 0, 0);
        due("by nothing", cold.pairs(-1), 0);
        due("with none, as that is the least", cold.pairs(0), -1);
        cold.like(1, 0, 1);
        due("by one", cold.pairs(-1), 1);
        due("with him", cold.pairs(0), 1);
        PaneStreet apart = Check.streetOf("pane;pane;walker at 0 taper 0;walker at 1 taper 0");
        due("without a far", apart.pairs(-1), 0);
        due("with none", apart.pairs(0), -1);
        apart.way(0, 1, true);
        due("with a far", apart.pairs(-1), 10);
    }

    private static Object learnt(PaneStreet x, int... rows) {
        Check.feed(x, rows);
        Object got = Check.answerOf(x::learnt);
        due("the tape is used up", x.end(1), false);
        return got;
    }

    private static void learnt() {
        sentence("36", "LEARNT: told are rows: a WALKER, a PANE with an OWNER, whether he lit it (1) or not (0): LIKES of "
            + "him of that OWNER are "
            + "at least or below some L (1 to 9, the same L for all; by LIKES as they are now): L that fit, as bits 1 to 9.");
        PaneStreet x = Check.streetOf("pane;pane;walker at 0 taper 0;walker at 0 taper 0 owns 0;walker at 0 taper 0");
        due("none told", learnt(x), 0x3fe);
        for (int likes = 0; likes <= 9; likes++) {
            x.like(0, 1, likes);
            int atMost = (1 << likes + 1) - 2;
            due("lit with likes of " + likes, learnt(x, 0, 0, 1), atMost);
            due("not lit with likes of " + likes, learnt(x, 0, 0, 0), 0x3fe & ~atMost);
            due("both", learnt(x, 0, 0, 0, 0, 0, 1), 0);
        }
        x.like(0, 1, 3);
        x.like(2, 1, 4);
        due("between 3 and 4", learnt(x, 0, 0, 0, 2, 0, 1), 0b10000);
        due("3 lit and 4 did not", learnt(x, 0, 0, 1, 2, 0, 0), 0);
        x.like(2, 1, 3);
        due("like likes", learnt(x, 0, 0, 0, 2, 0, 1), 0);
        due("likes of his, not of the owner", x.likes(1, 0), 5);
        PaneStreet two = Check.streetOf("pane;pane;pane;walker at 0 taper 0;walker at 0 taper 0 owns 0;walker at 0 taper 0 owns 2;"
            + "likes 0 1 8;likes 0 2 2;likes 1 2 6");
        due("of the owner of that pane", learnt(two, 0, 2, 1), 0b110);
        due("of the owner of the other one", learnt(two, 0, 0, 1), 0b111111110);
        due("of another walker", learnt(two, 1, 2, 1), 0b1111110);
        due("above 2 and up to 6", learnt(two, 0, 2, 0, 1, 2, 1), 0b1111000);
        due("above 2 and up to 6, lit twice", learnt(two, 0, 2, 0, 1, 2, 1, 0, 0, 1), 0b1111000);
        due("no pane, of any walker", learnt(two, 2, 3, 1), REFUSED);
        due("no pane, of any walker", learnt(two, 1, 3, 1), REFUSED);

        sentence("36", "at most 39 bytes), as bits.");
        for (int rows : new int[] {1, 12, 13}) {
            due("rows: " + rows, learnt(x, rowsOf(rows)), 0b1110);
        }
        due("14 rows, 42 bytes", learnt(x, rowsOf(14)), REFUSED);
        int[] last = rowsOf(13);
        last[38] = 0;
        due("the 13th row counts", learnt(x, last), 0);
        for (int bytes : new int[] {1, 2, 4, 37, 38, 40, 41, 400}) {
            due("bytes: " + bytes, learnt(x, Arrays.copyOf(rowsOf(14), bytes)), REFUSED);
        }

        sentence("36", "IllegalArgumentException: the TAPE is not that (none may be told; a PANE without an OWNER, or his "
            + "own, is none).");
        due("without an owner", learnt(x, 0, 1, 1), REFUSED);
        due("his own", learnt(x, 1, 0, 1), REFUSED);
        due("the last walker", learnt(x, 2, 0, 1), 0b1110);
        due("no walker", learnt(x, 3, 0, 1), REFUSED);
        due("a walker of 255", learnt(x, 255, 0, 1), REFUSED);
        due("no pane", learnt(x, 0, 2, 1), REFUSED);
        due("a pane of 255", learnt(x, 0, 255, 1), REFUSED);
        due("2", learnt(x, 0, 0, 2), REFUSED);
        due("255", learnt(x, 0, 0, 255), REFUSED);
        due("the second row is wrong", learnt(x, 0, 0, 1, 0, 1, 1), REFUSED);
    }

    private static int[] rowsOf(int rows) {
        int[] bytes = new int[3 * rows];
        for (int row = 0; row < rows; row++) {
            bytes[3 * row + 2] = 1;
        }
        return bytes;
    }

    private static void lasts() {
        sentence("7", "LASTS of a PANE: how many HOURS its OIL burns from now on without a break (OIL; 0, if it is not BURNING).");
        for (int oil : new int[] {1, 2, 98, 99}) {
            due("burning with " + oil, Check.streetOf("pane oil " + oil + " lit").pane(0, 7), oil);
            due("not burning with " + oil, Check.streetOf("pane oil " + oil).pane(0, 7), 0);
        }
        due("0", Check.streetOf("pane oil 0").pane(0, 7), 0);
        PaneStreet x = Check.streetOf("pane oil 2 lit");
        x.hours(1);
        due("an hour later", x.pane(0, 7), 1);
        x.hours(1);
        due("burnt out", x.pane(0, 7), 0);
    }

    private static void share() {
        sentence("37", "SHARE of N (0 to 999): N OIL is given, one by one, each to the LAMP that has the least by then "
            + "(of several the least), "
            + "none above 99 (what no LAMP can take is left): what a PANE has then.");
        PaneStreet x = Check.streetOf("pane oil 3;pane oil 1;pane oil 3");
        String[] want = {"3 1 3", "3 2 3", "3 3 3", "4 3 3", "4 4 3", "4 4 4", "5 4 4"};
        for (int n = 0; n < want.length; n++) {
            due("share of " + n, x.share(0, n) + " " + x.share(1, n) + " " + x.share(2, n), want[n]);
        }
        int room = 297 - 7;
        due("one too few", x.share(0, room - 1) + " " + x.share(1, room - 1) + " " + x.share(2, room - 1), "99 99 98");
        due("all are full", x.share(2, room), 99);
        due("one too many", x.share(0, room + 1) + " " + x.share(1, room + 1) + " " + x.share(2, room + 1), "99 99 99");
        due("998", x.share(1, 998), 99);
        due("999", x.share(1, 999), 99);
        Check.bounds("share", 0, 999, ARGUMENT, n -> x.share(0, n));
        due("nothing stays", x.pane(1, 0), 1);
        PaneStreet nine = Check.streetOf(lines("pane oil 0", 9));
        due("999 are too many for nine", nine.share(8, 999), 99);
        due("890 for nine", nine.share(7, 890) + " " + nine.share(8, 890), "99 98");
        due("891 for nine", nine.share(8, 891), 99);
        due("98 and 1", Check.streetOf("pane oil 98").share(0, 1), 99);
        due("99 and 1", Check.streetOf("pane oil 99").share(0, 1), 99);
    }

    private static void rests() {
        sentence("38", "RESTS of two WALKERS: each lights the other one's lamp (0) or goes by (1), unseen: who goes by "
            + "has 4, if the other one "
            + "lights, else 0; who lights has his own LIKES of the other one less 3, if the other one lights, too, else 0 "
            + "less 2: choices "
            + "(2 times the first one's and the other one's) from which neither would have more by his other one: as bits.");
        PaneStreet x = walkersAtOne(2);
        for (int one = 0; one <= 9; one++) {
            for (int other = 0; other <= 9; other++) {
                x = walkersAtOne(2);
                x.like(0, 1, one);
                x.like(1, 0, other);
                due("likes " + one + " and " + other, x.rests(0, 1), one >= 7 && other >= 7 ? 0b1001 : 0b1000);
            }
        }
    }

    private static void odds() {
        sentence("39", "ODDS of N HOURS (0 to 6) and K (0 to 6): that there is MIST in K of them at least, each alike, in "
            + "ten thousandths, "
            + "rounded down.");
        PaneStreet none = Check.streetOf("fog 0");
        PaneStreet all = Check.streetOf("fog 100");
        PaneStreet half = Check.streetOf("fog 50");
        for (int n = 0; n <= 6; n++) {
            for (int k = 0; k <= 6; k++) {
                due("fog 0, " + n + " and " + k, none.odds(n, k), k == 0 ? 10000 : 0);
                due("fog 100, " + n + " and " + k, all.odds(n, k), k <= n ? 10000 : 0);
            }
            due("all of " + n, half.odds(n, n), 10000 >> n);
        }
        due("one of six", half.odds(6, 1), 9843);
        due("five of six", half.odds(6, 5), 1093);
        due("five of five", half.odds(5, 5), 312);
        PaneStreet one = Check.streetOf("fog 1");
        due("one of one by 1", one.odds(1, 1), 100);
        due("two of two by 1", one.odds(2, 2), 1);
        due("three of three by 1, rounded down", one.odds(3, 3), 0);
        due("one of two by 1", one.odds(2, 1), 199);
        due("one of three by 1", one.odds(3, 1), 297);
        PaneStreet most = Check.streetOf("fog 99");
        due("one of one by 99", most.odds(1, 1), 9900);
        due("two of two by 99", most.odds(2, 2), 9801);
        due("one of two by 99", most.odds(2, 1), 9999);
        due("one of three by 99, rounded down", most.odds(3, 1), 9999);
        due("six of six by 99", most.odds(6, 6), 9414);
        Check.bounds("hours", 0, 6, ARGUMENT, n -> half.odds(n, 0));
        Check.bounds("at least", 0, 6, ARGUMENT, k -> half.odds(0, k));
        Check.bounds("at least of six", 0, 6, ARGUMENT, k -> half.odds(6, k));
    }

    private static void brightAndGloom() {
        sentence("40", "BRIGHT: PANES BURNING, as bits.");
        due("without panes", new PaneStreet().bright(), 0);
        due("none", Check.streetOf(lines("pane", 9)).bright(), 0);
        due("all nine", Check.streetOf(lines("pane lit", 9)).bright(), 0x1ff);
        due("the first and the last", Check.streetOf("pane lit;" + lines("pane", 7) + ";pane lit").bright(), 0x101);

        sentence("41", "GLOOM: the PANE of the most DARK (of several the least; none without PANES).");
        due("without panes", new PaneStreet().gloom(), -1);
        due("one, dark 0", Check.streetOf("pane lit").gloom(), 0);
        due("several of 0", Check.streetOf("pane;pane").gloom(), 0);
        PaneStreet x = Check.streetOf(lines("pane oil 2 lit", 8) + ";pane");
        x.hours(1);
        due("the last one", x.gloom(), 8);
        x.hours(60);
        x.hours(37);
        due("98 of the last one", x.pane(8, 3) + " " + x.gloom(), "98 8");
        x.hours(1);
        due("99 of the last one", x.pane(0, 3) + " " + x.pane(8, 3) + " " + x.gloom(), "98 99 8");
        x.hours(1);
        due("99 of all", x.pane(0, 3) + " " + x.pane(8, 3) + " " + x.gloom(), "99 99 0");
    }

    private static void lamplighterAndSpent() {
        sentence("42", "LAMPLIGHTER: who LIT the most (of several the least; none, if nobody did).");
        due("no walkers", new PaneStreet().lamplighter(), -1);
        PaneStreet x = Check.streetOf("pane;pane;pane;walker at 0 taper 1;walker at 1 taper 0;walker at 2 taper 9");
        due("nobody did", x.lamplighter(), -1);
        x.strike(2);
        due("the last one", x.lamplighter(), 2);
        x.strike(0);
        due("of two the least", x.lamplighter(), 0);
        x.heads(2, 1);
        x.way(1, 2, true);
        x.hours(1);
        due("two against one", x.lamplighter(), 2);

        sentence("43", "SPENT: WALKERS of TAPER 0, as bits.");
        due("no walkers", new PaneStreet().spent(), 0);
        due("all six", walkersAtOne(6).spent(), 0b111111);
        PaneStreet some = Check.streetOf("pane;walker at 0 taper 0;walker at 0 taper 1;walker at 0 taper 99;walker at 0 taper 0");
        due("0, not 1", some.spent(), 0b1001);
        some.strike(1);
        due("1 less 1", some.spent(), 0b1011);
    }

    private static void crowdAndAlike() {
        sentence("44", "CROWD: the PANE AT which the most WALKERS are (of several the least; none without WALKERS).");
        due("without panes", new PaneStreet().crowd(), -1);
        due("without walkers", Check.streetOf("pane").crowd(), -1);
        due("all six", Check.streetOf(lines("pane", 9) + ";walker at 8 taper 0").crowd(), 8);
        PaneStreet x = Check.streetOf("pane;pane;pane;walker at 1 taper 0;walker at 2 taper 0;walker at 2 taper 0");
        due("two against one", x.crowd(), 2);
        Check.street(x, "walker at 1 taper 0");
        due("two and two", x.crowd(), 1);
        Check.street(x, "walker at 0 taper 0;walker at 0 taper 0");
        due("two, two and two", x.crowd(), 0);

        sentence("45", "ALIKE: pairs of WALKERS of like TAPER and PANE.");
        int[] pairs = {0, 0, 1, 3, 6, 10, 15};
        for (int walkers = 0; walkers <= 6; walkers++) {
            due("all alike of " + walkers, walkersAtOne(walkers).alike(), pairs[walkers]);
        }
        due("unlike tapers", Check.streetOf("pane;walker at 0 taper 0;walker at 0 taper 1").alike(), 0);
        due("unlike panes", Check.streetOf("pane;pane;walker at 0 taper 1;walker at 1 taper 1").alike(), 0);
    }

    private static void part() {
        sentence("8", "PART of a WALKER of LIT of all, in hundredths, rounded down (0 without).");
        PaneStreet x = Check.streetOf("pane;walker at 0 taper 0 owns 0;walker at 0 taper 99;walker at 0 taper 99");
        due("nobody lit", x.walker(1, 6), 0);
        int[] who = {1, 2, 2, 2, 2, 2, 1};
        String[] want = {"100 0", "50 50", "33 66", "25 75", "20 80", "16 83", "28 71"};
        for (int i = 0; i < who.length; i++) {
            x.strike(who[i]);
            x.snuff(0);
            due("after " + (i + 1), x.walker(1, 6) + " " + x.walker(2, 6), want[i]);
        }
        due("who lit none", x.walker(0, 6), 0);
        PaneStreet many = Check.streetOf("pane;walker at 0 taper 0 owns 0;walker at 0 taper 99;walker at 0 taper 99");
        many.strike(1);
        many.snuff(0);
        for (int i = 2; i <= 101; i++) {
            if (i == 100) {
                many.taper(2, 9);
            }
            many.strike(2);
            many.snuff(0);
            if (i >= 99) {
                due("one of " + i, many.walker(1, 6) + " " + many.walker(2, 6), i <= 100 ? "1 " + (i == 99 ? 98 : 99) : "0 99");
            }
        }
    }

    /** Whether there is mist in each of the hours from a seed on, reckoned apart from the program. */
    private static boolean[] mists(int seed, int fog, int hours) {
        boolean[] mists = new boolean[hours];
        for (int hour = 0; hour < hours; hour++) {
            seed = seed * 1103515245 + 12345;
            mists[hour] = (seed >>> 16) % 32768 % 100 < fog;
        }
        return mists;
    }

    /** How many hours without mist there are. */
    private static int clear(int seed, int fog, int hours) {
        int clear = 0;
        for (boolean mist : mists(seed, fog, hours)) {
            clear += mist ? 0 : 1;
        }
        return clear;
    }

    /** A walker who lights a lamp by each step, and so tells how many hours were clear. */
    private static PaneStreet counter(int fog) {
        PaneStreet x = Check.streetOf(lines("pane oil 99", 9) + ";walker at 0 taper 99 heads 8;fog " + fog, "pass if pane<1");
        Check.street(x, "way 0 1;way 1 2;way 2 3;way 3 4;way 4 5;way 5 6;way 6 7;way 7 8");
        return x;
    }

    private static void trial() {
        sentence("47", "TRIAL of N HOURS (0 to 60) from now (draws, too; nothing stays): PANES BURNING then, as bits; OIL "
            + "of all together.");
        for (int fog : new int[] {0, 1, 50, 99, 100}) {
            for (int seed : new int[] {1, 2, -7}) {
                PaneStreet x = counter(fog);
                x.seed(seed);
                for (int n : new int[] {0, 1, 2, 8}) {
                    int lit = clear(seed, fog, n);
                    due("fog " + fog + ", seed " + seed + ", hours " + n, x.trial(n, false), (1 << lit + 1) - 2);
                }
                due("the seed stays", x.seed(seed), seed);
                due("so does the hour", x.count(4), 0);
                due("and the mist", x.count(7), 0);
                due("no act", x.count(12), 0);
                due("no row", x.count(11), 0);
            }
        }
        PaneStreet x = Check.streetOf("pane oil 60 lit;pane oil 3 lit;pane oil 7");
        due("oil now", x.trial(0, true), 70);
        due("oil by 1", x.trial(1, true), 68);
        due("oil by 59", x.trial(59, true), 8);
        due("by 59", x.trial(59, false), 1);
        due("oil by 60", x.trial(60, true), 7);
        due("by 60", x.trial(60, false), 0);
        due("without panes", new PaneStreet().trial(60, true), 0);
        due("oil of nine", Check.streetOf(lines("pane oil 99", 9)).trial(60, true), 891);
        Check.bounds("trial", 0, 60, ARGUMENT, n -> x.trial(n, false));
        Check.bounds("trial of oil", 0, 60, ARGUMENT, n -> x.trial(n, true));
    }

    private static void span() {
        sentence("48", "SPAN: the least and the greatest number of PANES BURNING so from SEED 1, 2, .. 6.");
        boolean firstCounts = false;
        boolean sixthCounts = false;
        boolean seventhWould = false;
        boolean noneWould = false;
        for (int fog = 0; fog <= 100; fog++) {
            PaneStreet x = counter(fog);
            x.seed(99);
            for (int n = 1; n <= 8; n++) {
                int least = least(fog, n, 1, 6);
                int most = most(fog, n, 1, 6);
                due("the least by fog " + fog + ", hours " + n, x.span(n, false), least);
                due("the greatest by fog " + fog + ", hours " + n, x.span(n, true), most);
                firstCounts |= least != least(fog, n, 2, 6) || most != most(fog, n, 2, 6);
                sixthCounts |= least != least(fog, n, 1, 5) || most != most(fog, n, 1, 5);
                seventhWould |= least != least(fog, n, 1, 7) || most != most(fog, n, 1, 7);
                noneWould |= least != least(fog, n, 0, 6) || most != most(fog, n, 0, 6);
            }
            due("the seed stays", x.seed(99), 99);
        }
        due("seed 1 is seen by these", firstCounts, true);
        due("seed 7 would be seen by these", seventhWould, true);
        due("seed 0 would be seen by these", noneWould, true);
        PaneStreet sixth = Check.streetOf(lines("pane", 6) + ";walker at 0 taper 1;walker at 1 taper 1;walker at 2 taper 1;"
            + "walker at 3 taper 1;walker at 4 taper 1;walker at 5 taper 1;fog 27",
            "pass if hour<pane or hour>pane or misty and pane>1 or not misty and pane<2");
        boolean[] mists = mists(6, 27, 6);
        int lamps = 0;
        for (int hour = 0; hour < 6; hour++) {
            lamps += mists[hour] == hour < 2 ? 1 : 0;
        }
        due("all six by the draws of seed 6", lamps, 6);
        due("seed 6 is seen by these", sixthCounts || sixth.span(6, true) == 6, true);
        due("all six by seed 6", sixth.span(6, true), 6);
        PaneStreet x = Check.streetOf("pane lit;" + lines("pane oil 60 lit", 8) + ";fog 50");
        due("now", x.span(0, false) + " " + x.span(0, true), "9 9");
        due("by 20", x.span(20, false) + " " + x.span(20, true), "8 8");
        due("by 59", x.span(59, false) + " " + x.span(59, true), "8 8");
        due("by 60", x.span(60, false) + " " + x.span(60, true), "0 0");
        due("without panes", new PaneStreet().span(60, false) + " " + new PaneStreet().span(60, true), "0 0");
        Check.bounds("the least", 0, 60, ARGUMENT, n -> x.span(n, false));
        Check.bounds("the greatest", 0, 60, ARGUMENT, n -> x.span(n, true));
    }

    private static int least(int fog, int hours, int from, int to) {
        int least = 9;
        for (int seed = from; seed <= to; seed++) {
            least = Math.min(least, clear(seed, fog, hours));
        }
        return least;
    }

    private static int most(int fog, int hours, int from, int to) {
        int most = 0;
        for (int seed = from; seed <= to; seed++) {
            most = Math.max(most, clear(seed, fog, hours));
        }
        return most;
    }

    private static void led() {
        sentence("49", "LED: how many rows of THE LOG are of a PANE; the NIGHT of the latest (none).");
        PaneStreet x = Check.streetOf("pane oil 99;pane oil 99;walker at 0 taper 99 owns 1;walker at 1 taper 99 owns 0;"
            + "hour 23;night 5", "pass");
        due("no row", x.led(0, false) + " " + x.led(0, true), "0 -1");
        x.strike(0);
        due("one row", x.led(0, false) + " " + x.led(0, true), "1 5");
        due("none of the other one", x.led(1, false) + " " + x.led(1, true), "0 -1");
        x.hours(1);
        x.snuff(0);
        due("two rows", x.led(0, false) + " " + x.led(0, true), "2 6");
        for (int i = 0; i < 29; i++) {
            x.strike(1);
            x.snuff(1);
        }
        due("60 rows in all", x.count(11), 60);
        due("two of the first one", x.led(0, false) + " " + x.led(0, true), "2 6");
        due("58 of the other one", x.led(1, false) + " " + x.led(1, true), "58 6");
        x.strike(1);
        due("the first row is gone", x.led(0, false) + " " + x.led(0, true), "1 6");
        x.snuff(1);
        due("both are gone", x.led(0, false) + " " + x.led(0, true), "0 -1");
        due("60 of the other one", x.led(1, false) + " " + x.led(1, true), "60 6");
        PaneStreet zero = Check.streetOf("pane;walker at 0 taper 1");
        zero.strike(0);
        due("night 0", zero.led(0, true), 0);
    }
}
