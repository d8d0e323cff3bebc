/** The edges of the law. In a wrong text a ^ stands ahead of the first wrong byte. */
public final class LawTextEdgeTest {
    private static final int WALKER = 2;
    private static final int PANE = 3;

    private LawTextEdgeTest() {
    }

    public static void main(String[] args) {
        lines();
        kinds();
        alls();
        atoms();
        sums();
        numbers();
        likesOwnedMisty();
        will();
        passing();
        lighting();
        wordsAndBlanks();
        depths();
        wrongBytes();
        Check.end();
    }

    private static void sentence(String promises, String words) {
        Check.sentence(promises, words);
    }

    private static void due(String call, Object got, Object want) {
        Check.due(call, got, want);
    }

    private static String lines(String line, int times) {
        return (line + ";").repeat(times - 1) + line;
    }

    private static void right(String text, int lines) {
        PaneStreet x = new PaneStreet();
        due("'" + text + "'", Check.law(x, text), lines);
        due("no fault of '" + text + "'", x.fault(), PaneStreet.NONE);
        due("lines of '" + text + "'", x.count(3), lines);
        due("it is used up", x.end(1), false);
    }

    private static void wrong(String marked) {
        String text = marked.replace("^", "");
        PaneStreet x = new PaneStreet();
        due("'" + text + "'", Check.law(x, text), "throws IllegalArgumentException");
        due("the first wrong byte of '" + text + "'", x.fault(), marked.indexOf('^'));
        due("it is used up", x.end(1), false);
        due("no law by '" + text + "'", x.count(3), PaneStreet.NONE);
        PaneStreet y = Check.streetOf("pane;walker at 0 taper 1", "kind 3;cold 1");
        Check.law(y, text);
        due("the law before '" + text + "' stays", y.will(0, 0) + " " + y.count(3), "7 2");
    }

    /** Of walker 2 and pane 3: oil 7, dark 2, taper 4, likes 6, hour 9; the pane is walker 1's. */
    private static PaneStreet known() {
        PaneStreet x = Check.streetOf("pane;pane;pane;pane oil 7;walker at 0 taper 5;walker at 0 taper 5 owns 3;"
            + "walker at 0 taper 4 owns 2;likes 2 1 6;hour 7", "pass");
        x.hours(2);
        return x;
    }

    private static boolean isTrue(String condition) {
        PaneStreet x = known();
        due("if " + condition, Check.law(x, "kind 10 if " + condition), 1);
        int will = x.will(WALKER, PANE);
        due("will by " + condition, will == 6 || will == 16, true);
        return will == 16;
    }

    private static void holds(String condition) {
        due(condition, isTrue(condition), true);
    }

    private static void fails(String condition) {
        due(condition, isTrue(condition), false);
    }

    private static void lines() {
        sentence("5, 55", "THE LAW (a text, in place of the one before): LINE { ; LINE }, at most 12:");
        right("pass", 1);
        right(lines("kind 1", 11), 11);
        right(lines("kind 1", 12), 12);
        wrong(lines("kind 1", 12) + ";^kind 1");
        wrong(lines("kind 1", 12) + "; ^kind 21");
        wrong(lines("kind 1", 12) + ";^");
        wrong("^;");
        wrong("pass;^");
        wrong("pass;^;pass");
        wrong("pass ^pass");
        PaneStreet x = Check.streetOf("pane;walker at 0 taper 1", lines("kind 1", 12));
        due("12 lines count", x.will(0, 0), 17);
        due("the last one, too", Check.law(x, lines("kind 0", 11) + ";kind 3"), 12);
        due("by the last one", x.will(0, 0), 8);
        due("in place of it", Check.law(x, "cold 2"), 1);
        due("of those before nothing stays", x.will(0, 0), 3);
        due("no line", Check.law(x, ""), 0);
        due("nothing of it stays", x.will(0, 0), 5);
    }

    private static void kinds() {
        sentence("5", "kind N [ if C ] | cold N [ if C ] | pass [ if C ].");
        right("kind 3;cold 4;pass;kind 3 if owned;cold 4 if owned;pass if owned", 6);
        wrong("kind^");
        wrong("kind ^if owned");
        wrong("cold^");
        wrong("cold ^;");
        wrong("kind 3 ^3");
        wrong("kind 3 ^owned");
        wrong("pass ^3");
        wrong("pass ^owned");
        wrong("pass if^");
        wrong("pass if ^;");
        wrong("pass if ^if owned");
        wrong("kind 3 if owned ^if owned");
        wrong("^if owned");
        wrong("^owned");
        wrong("^pane");
        wrong("^3");
    }

    private static void alls() {
        sentence("5, 10", "C: ALL { or ALL }; ALL: ATOM { and ATOM };");
        holds("owned");
        holds("misty or owned");
        holds("owned or misty");
        fails("misty or misty");
        holds("misty or misty or owned");
        holds("owned and owned");
        fails("owned and misty");
        fails("misty and owned");
        fails("owned and owned and misty");
        holds("misty and misty or owned");
        holds("owned or misty and misty");
        fails("(owned or misty) and misty");
        fails("misty and (misty or owned)");
        wrong("pass if owned and^");
        wrong("pass if owned or^");
        wrong("pass if owned or ^and owned");
        wrong("pass if ^and owned");
        wrong("pass if ^or owned");
        wrong("pass if owned ^owned");
        wrong("pass if owned ^not owned");
        wrong("pass if owned and ^;pass");
    }

    private static void atoms() {
        sentence("5, 10", "ATOM: not ATOM | ( C ) | owned | misty | SUM < SUM | SUM > SUM.");
        fails("not owned");
        holds("not misty");
        holds("not not owned");
        holds("not misty and owned");
        fails("not (misty or owned)");
        holds("not misty or owned");
        fails("not oil<8");
        holds("not oil<7");
        holds("(owned)");
        fails("(misty)");
        holds("(misty or owned) and (owned or misty)");
        holds("2<3");
        fails("3<3");
        fails("4<3");
        fails("2>3");
        fails("3>3");
        holds("4>3");
        wrong("pass if not^");
        wrong("pass if not ^)");
        wrong("pass if (^");
        wrong("pass if (^)");
        wrong("pass if (owned^");
        wrong("pass if (owned ^;");
        wrong("pass if owned^)");
        wrong("pass if (owned)^)");
        wrong("pass if 3^");
        wrong("pass if 3 ^and owned");
        wrong("pass if 3<^");
        wrong("pass if 3<^owned");
        wrong("pass if 3<4^<5");
        wrong("pass if 3^=4");
        wrong("pass if 3<^=4");
        wrong("pass if (3^)<4");
        wrong("pass if ^<4");
        wrong("pass if owned^<4");
    }

    private static void sums() {
        sentence("5, 10", "SUM: PART { + PART }; PART: NUMBER | walker | pane | oil | dark | taper | likes | hour.");
        String[] parts = {"walker", "pane", "oil", "dark", "taper", "likes", "hour"};
        int[] worth = {2, 3, 7, 2, 4, 6, 9};
        for (int i = 0; i < parts.length; i++) {
            holds(parts[i] + ">" + (worth[i] - 1));
            fails(parts[i] + ">" + worth[i]);
            fails(parts[i] + "<" + worth[i]);
            holds(parts[i] + "<" + (worth[i] + 1));
            holds(worth[i] - 1 + "<" + parts[i]);
            fails(worth[i] + "<" + parts[i]);
        }
        holds("walker+pane+oil+dark+taper+likes+hour>32");
        fails("walker+pane+oil+dark+taper+likes+hour>33");
        fails("walker+pane+oil+dark+taper+likes+hour<33");
        holds("walker+pane+oil+dark+taper+likes+hour<34");
        holds("999+999+999>999+999+998");
        fails("999+999+999>999+999+999");
        holds("0+0<0+1");
        String ones = "kind3if1" + "+1".repeat(194);
        PaneStreet longest = Check.streetOf("pane;walker at 0 taper 0");
        due("400 bytes, a sum of 195", Check.law(longest, ones + ">194") + " " + longest.will(0, 0), "1 8");
        due("which is not above 195", Check.law(longest, ones + ">195") + " " + longest.will(0, 0), "1 5");
        due("and below 196", Check.law(longest, ones + "<196") + " " + longest.will(0, 0), "1 8");
        wrong(ones + ">19^x");
        wrong("pass if oil+^");
        wrong("pass if oil+^<3");
        wrong("pass if ^+oil<3");
        wrong("pass if oil ^oil<3");
        wrong("pass if oil+^owned<3");
        wrong("pass if oil+^lit<3");
        wrong("pass if ^night<3");
        wrong("pass if oil^-3<3");
        PaneStreet least = Check.streetOf("pane oil 0;walker at 0 taper 0;hour 0",
            "kind 1 if walker+pane+oil+dark+taper+hour<1;kind 2 if walker+pane+oil+dark+taper+hour>0");
        due("all of them at 0", least.will(0, 0), 6);
        PaneStreet most = Check.streetOf("pane oil 99;walker at 0 taper 99;hour 23;fog 0",
            "kind 1 if oil>98;kind 2 if oil>99;kind 4 if taper>98;kind 8 if taper>99;kind 16 if hour>22;kind 20 if hour>23");
        due("all of them at their most", most.will(0, 0), 5 + 1 + 4 + 16);
        Check.law(most, "pass;kind 1 if dark>98;kind 2 if dark>99");
        most.hours(60);
        most.hours(60);
        due("dark at its most", most.will(0, 0), 6);
    }

    private static void numbers() {
        sentence("5", "All numbers are of 1 to 3 digits (N 0 to 20).");
        PaneStreet x = Check.streetOf("pane;walker at 0 taper 1");
        for (int n : new int[] {0, 1, 19, 20}) {
            due("kind " + n, Check.law(x, "kind " + n) + " " + x.will(0, 0), "1 " + (5 + n));
            due("cold " + n, Check.law(x, "cold " + n) + " " + x.will(0, 0), "1 " + (5 - n));
        }
        wrong("kind ^21");
        wrong("cold ^21");
        wrong("kind ^999");
        wrong("cold 3;kind ^100");
        right("kind 020;cold 000", 2);
        wrong("kind ^0020");
        wrong("cold ^0000");
        holds("7<008");
        holds("998<999");
        fails("999<999");
        holds("0<001");
        wrong("pass if oil<^1000");
        wrong("pass if ^1000>oil");
        wrong("pass if oil<^0001");
        wrong("pass if oil+^0001<3");
        wrong("kind ^-1");
    }

    private static void likesOwnedMisty() {
        sentence("10", "Of a WALKER and a PANE: likes: LIKES of him of its OWNER (5 without one, and of his own);");
        for (int likes : new int[] {0, 1, 8, 9}) {
            PaneStreet x = Check.streetOf("pane;pane;walker at 0 taper 1 owns 0;walker at 0 taper 1 owns 1;likes 0 1 " + likes
                + ";likes 1 0 3");
            due("likes " + likes, x.will(0, 1), likes);
            due("not of its owner of him", x.will(1, 0), 3);
            due("of his own", x.will(0, 0), 5);
            Check.law(x, "kind 10 if likes<" + (likes + 1) + ";kind 20 if likes<" + likes);
            due("as the law sees it", x.will(0, 1), likes + 10);
        }
        PaneStreet free = Check.streetOf("pane;walker at 0 taper 1;walker at 0 taper 1;likes 0 1 0", "kind 1 if likes>4;"
            + "kind 2 if likes>5");
        due("without an owner", free.will(0, 0), 6);

        sentence("10", "owned: it has an OWNER; misty: there is MIST.");
        PaneStreet x = Check.streetOf("pane;pane;walker at 0 taper 0 owns 0;walker at 0 taper 0;fog 100", "kind 1 if owned;kind 2 if misty");
        due("owned by another one", x.will(1, 0), 6);
        due("owned by himself", x.will(0, 0), 6);
        due("not owned", x.will(1, 1), 5);
        x.hours(1);
        due("in mist", x.will(1, 0), 8);
        due("in mist, not owned", x.will(1, 1), 7);
    }

    private static void will() {
        sentence("10", "WILL: likes and the sum of N of all kind LINES that hold, less that of all cold LINES (below 0, too).");
        PaneStreet x = Check.streetOf("pane;pane;walker at 0 taper 1 owns 0;walker at 0 taper 1 owns 1;likes 0 1 0;likes 1 0 9");
        due("likes alone", x.will(0, 1), 0);
        due("likes alone, 9", x.will(1, 0), 9);
        due("12 lines", Check.law(x, lines("cold 20", 12)), 12);
        due("the least of all", x.will(0, 1), -240);
        due("12 lines", Check.law(x, lines("kind 20", 12)), 12);
        due("the greatest of all", x.will(1, 0), 249);
        for (int cold = 1; cold <= 10; cold++) {
            Check.law(x, "cold " + cold);
            due("9 less " + cold, x.will(1, 0), 9 - cold);
        }
        Check.law(x, "kind 7;cold 3;kind 5 if pane<1;cold 4 if pane<1;pass");
        due("all that hold", x.will(1, 0), 9 + 7 - 3 + 5 - 4);
        due("only what holds", x.will(0, 1), 7 - 3);
    }

    private static void passing() {
        sentence("11", "PASSES BY: whether some pass LINE holds.");
        PaneStreet x = Check.streetOf("pane;walker at 0 taper 1");
        due("no line", x.lights(0, 0), true);
        String[] laws = {"pass", "pass if owned;pass", "pass;pass if owned", "kind 1;pass if not owned;kind 1"};
        for (String law : laws) {
            Check.law(x, law);
            due(law, x.lights(0, 0), false);
        }
        Check.law(x, "pass if owned;pass if misty;kind 20");
        due("none that holds", x.lights(0, 0), true);
        Check.law(x, lines("pass if owned", 11) + ";pass");
        due("the last of 12", x.lights(0, 0), false);
    }

    private static void lighting() {
        sentence("11", "LIGHTS: a WALKER with a TAPER above 0 the LAMP of a PANE that is not BURNING, has OIL and is not his own, "
            + "if WILL is 5 at least and he does not PASS it BY.");
        for (int taper : new int[] {0, 1, 2, 99}) {
            due("taper " + taper, Check.streetOf("pane;walker at 0 taper " + taper).lights(0, 0), taper > 0);
        }
        for (int oil : new int[] {0, 1, 2, 99}) {
            due("oil " + oil, Check.streetOf("pane oil " + oil + ";walker at 0 taper 1").lights(0, 0), oil > 0);
        }
        due("burning", Check.streetOf("pane lit;walker at 0 taper 1").lights(0, 0), false);
        PaneStreet x = Check.streetOf("pane;pane;walker at 0 taper 1 owns 0;walker at 0 taper 1 owns 1");
        due("his own", x.lights(0, 0), false);
        due("another one's", x.lights(0, 1), true);
        due("farther away than a way", x.far(0, 1), -1);
        for (int likes = 0; likes <= 9; likes++) {
            x.like(0, 1, likes);
            due("a will of " + likes, x.lights(0, 1), likes >= 5);
        }
        for (int cold = 3; cold <= 5; cold++) {
            Check.law(x, "cold " + cold);
            due("a will of 9 less " + cold, x.lights(0, 1), cold <= 4);
        }
        Check.law(x, "kind 20;pass if owned");
        due("he passes it by", x.lights(0, 1), false);
    }

    private static void wordsAndBlanks() {
        sentence("5", "Words are as long as a to z go on;");
        wrong("^passif owned");
        wrong("pass ^ifowned");
        wrong("pass if ^notowned");
        wrong("pass if owned ^andowned");
        wrong("pass if ^Owned");
        wrong("^pas");
        right("kind3if3<oil", 1);
        right("pass if not(owned)and(owned)or(owned)", 1);

        sentence("5", "between all there may be blanks (32), also ahead and behind.");
        right("  pass  if  (  oil  +  3  <  4  )  and  not  owned  ;  cold  3  ", 2);
        wrong("pass if oil^\t<3");
        wrong("pass^" + (char) 31);
        wrong("^!pass");
        wrong("pass^" + (char) 200);
        wrong("pass if oil < 1 ^2");

        sentence("5", "A text that is empty, or blanks alone, has no LINE.");
        right("", 0);
        right(" ", 0);
        right(" ".repeat(400), 0);
        wrong(" ^;");
        due("ahead of any there is none", new PaneStreet().count(3), PaneStreet.NONE);
    }

    private static String deep(String open, int depth) {
        return open.repeat(depth) + "owned" + (open.contains("(") ? ")".repeat(depth) : "");
    }

    private static void depths() {
        sentence("5", "( and not within one another at most 6 deep.");
        for (int depth = 1; depth <= 6; depth++) {
            right("pass if " + deep("(", depth), 1);
            right("pass if " + deep("not ", depth), 1);
            due("so many times not " + depth, isTrue(deep("not ", depth)), depth % 2 == 0);
            holds(deep("(", depth));
        }
        right("pass if " + deep("not(", 3), 1);
        right("pass if " + deep("(not ", 3), 1);
        wrong("pass if ((((((^(owned)))))))");
        wrong("pass if not not not not not not ^not owned");
        wrong("pass if not(not(not(^not owned)))");
        wrong("pass if not(not(not(^(owned))))");
        wrong("pass if (not(not(not ^(owned))))");
        wrong("pass if (((((not ^not owned)))))");
        right("pass if ((((((owned))))))and((((((owned))))))or((((((owned))))))", 1);
        right("pass if not not not not not not owned and not not not not not not misty", 1);
        right("pass if ((((((3<4))))));pass if ((((((3<4))))))", 2);
        wrong("pass if ((((((owned))))));pass if ((((((^(owned)))))))");
        wrong("pass if (((((owned)and(not ^(owned))))))");
        wrong("pass if ((((((owned or ^(owned)))))))");
        wrong("pass if ((((((owned))))) and(^");
        wrong("pass if ((((((^");
        wrong("pass if ((((((owned^");
        wrong("pass if ((((((owned)))))^");
        wrong("pass if ((((((owned))))))^)");
    }

    private static void wrongBytes() {
        sentence("5, 6", "the ( or not that is a 7th one deep;");
        wrong("pass if ((((((   ^(");
        wrong("pass if ((((((   ^not");
        wrong("pass if ((((((   ^)");
        wrong("pass if not not not not not not ^");
        sentence("5, 6", "of a LINE, a PANE, a WALKER too many, the first word)");
        wrong(lines("pass", 12) + ";  ^kind 21");
        wrong(lines("pass", 12) + ";  ^x");
        sentence("5, 6", "or the text's length, if more must come.");
        wrong("kind^");
        wrong("kind  ^");
        wrong("pass if oil < 3 and not ( ^");
        wrong(" ".repeat(396) + "kind^");
        wrong(" ".repeat(395) + "kind ^");
        wrong("pass" + " ".repeat(395) + "^x");
        sentence("5, 6", "Of a wrong text nothing stays.");
        wrong("kind 20;pass;kind 20 if owned;^x");
        wrong("kind 20;pass if ^x");
    }
}
