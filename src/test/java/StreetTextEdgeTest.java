/** The edges of the texts of the street. In a wrong text a ^ stands ahead of the first wrong byte. */
public final class StreetTextEdgeTest {
    private static final String TWO = "pane;pane;walker at 0 taper 0;walker at 0 taper 0";

    private StreetTextEdgeTest() {
    }

    public static void main(String[] args) {
        texts();
        lines();
        paneLines();
        walkerLines();
        otherLines();
        whoIsThereByThen();
        bounds();
        owners();
        twoUnlikeOnes();
        digits();
        wordsAndBlanks();
        wrongBytes();
        Check.end();
    }

    private static void sentence(String promises, String words) {
        Check.sentence(promises, words);
    }

    private static void due(String call, Object got, Object want) {
        Check.due(call, got, want);
    }

    private static String lines(String line, int times) {
        return (line + ";").repeat(times - 1) + line;
    }

    /** A street by a text that is right. */
    private static PaneStreet right(String text) {
        PaneStreet x = new PaneStreet();
        due("'" + text + "'", Check.street(x, text), 1);
        due("no fault of '" + text + "'", x.fault(), PaneStreet.NONE);
        due("it is used up", x.end(1), false);
        return x;
    }

    private static void wrong(String marked) {
        wrongBehind("", marked);
    }

    /** A text that is wrong behind another one that is right. */
    private static void wrongBehind(String first, String marked) {
        PaneStreet x = Check.streetOf(first);
        String before = counts(x);
        String text = marked.replace("^", "");
        due("'" + text + "'", Check.street(x, text), "throws IllegalArgumentException");
        due("the first wrong byte of '" + text + "'", x.fault(), marked.indexOf('^'));
        due("it is used up", x.end(1), false);
        due("nothing stays of '" + text + "'", counts(x), before);
    }

    private static String counts(PaneStreet x) {
        StringBuilder all = new StringBuilder();
        for (int what = 0; what <= 12; what++) {
            all.append(x.count(what)).append(' ');
        }
        return all.append(x.bright()).toString();
    }

    private static void texts() {
        sentence("4, 55", "THE STREET is told in texts (at most 12, one behind another)");
        PaneStreet x = new PaneStreet();
        due("no text", x.count(2), 0);
        due("the first", Check.street(x, "pane"), 1);
        due("the second sees what the first told", Check.street(x, "walker at 0 taper 4"), 2);
        due("a wrong one is none", Check.street(x, "pane;walker at 2 taper 4") + " " + x.count(2),
            "throws IllegalArgumentException 2");
        due("a law is none", Check.law(x, "pass"), 1);
        for (int text = 3; text <= 10; text++) {
            due("text " + text, Check.street(x, ""), text);
        }
        due("the 11th", Check.street(x, "fog 11"), 11);
        x.image();
        due("the 12th", Check.street(x, "fog 12"), 12);
        due("there are 12", x.count(2), 12);
        due("the 13th", Check.street(x, "fog 13"), "throws UnsupportedOperationException");
        due("an empty 13th", Check.street(x, ""), "throws UnsupportedOperationException");
        due("there are 12 yet", x.count(2), 12);
        due("it told nothing", x.count(6), 12);
        x.back();
        due("gone back to 11", x.count(2), 11);
        due("a 12th again", Check.street(x, "fog 14"), 12);
        due("a 13th again", Check.street(x, "fog 15"), "throws UnsupportedOperationException");
    }

    private static void lines() {
        sentence("4", "LINE { ; LINE }, at most 14");
        right("fog 1");
        due("13", right(lines("fog 1", 12) + ";fog 13").count(6), 13);
        due("14", right(lines("fog 1", 13) + ";fog 14").count(6), 14);
        wrong(lines("fog 1", 14) + ";^fog 15");
        wrong(lines("fog 1", 14) + "; ^fog 15;fog 16");
        wrong(lines("fog 1", 14) + ";^");
        wrong(lines("fog 1", 14) + " ^fog 15");
        PaneStreet x = right(lines("fog 1", 14));
        due("14 more in the next text", Check.street(x, lines("fog 2", 14)), 2);
        wrong("^;");
        wrong("^;fog 1");
        wrong("fog 1;^");
        wrong("fog 1;^;fog 2");
        wrong("fog 1 ^fog 2");
        wrong("fog 1;^;");
    }

    private static void paneLines() {
        sentence("4", "pane [ oil N ] [ lit ]");
        PaneStreet x = right("pane;pane oil 7;pane lit;pane oil 7 lit");
        int[] oil = {20, 7, 20, 7};
        int[] lit = {0, 0, 1, 1};
        for (int pane = 0; pane < 4; pane++) {
            due("oil of " + pane, x.pane(pane, 0), oil[pane]);
            due("burning is " + pane, x.pane(pane, 1), lit[pane]);
        }
        wrong("pane lit ^oil 7");
        wrong("pane lit ^lit");
        wrong("pane oil 7 lit ^lit");
        wrong("pane oil ^lit");
        wrong("pane oil 7 ^oil 7");
        wrong("pane oil^");
        wrong("pane ^7");
        wrong("pane ^pane");
    }

    private static void walkerLines() {
        sentence("4", "walker at P taper N [ owns P ] [ heads P ]");
        PaneStreet x = right("pane;pane;walker at 1 taper 3;walker at 1 taper 3 owns 0;walker at 1 taper 3 heads 0;"
            + "walker at 1 taper 4 owns 1 heads 1");
        due("the owner of 0", x.pane(0, 2), 1);
        due("the owner of 1", x.pane(1, 2), 3);
        int[] heads = {-1, -1, 0, 1};
        for (int walker = 0; walker < 4; walker++) {
            due("heads of " + walker, x.walker(walker, 2), heads[walker]);
            due("at of " + walker, x.walker(walker, 0), 1);
        }
        due("taper", x.walker(3, 1), 4);
        wrong("pane;walker^");
        wrong("pane;walker ^0 taper 3");
        wrong("pane;walker at^");
        wrong("pane;walker at ^taper 3");
        wrong("pane;walker at 0^");
        wrong("pane;walker at 0 ^3");
        wrong("pane;walker at 0 ^owns 0");
        wrong("pane;walker at 0 taper^");
        wrong("pane;walker at 0 taper ^;");
        wrong("pane;walker at 0 taper 3 owns^");
        wrong("pane;walker at 0 taper 3 owns ^heads 0");
        wrong("pane;walker at 0 taper 3 heads^");
        wrong("pane;walker at 0 taper 3 heads 0 ^owns 0");
        wrong("pane;walker at 0 taper 3 owns 0 ^owns 0");
        wrong("pane;walker at 0 taper 3 heads 0 ^heads 0");
        wrong("pane;walker ^taper 3 at 0");
        wrong("pane;walker at 0 taper 3 ^3");
    }

    private static void otherLines() {
        sentence("4", "way P P | likes W W N | fog N | hour N | night N.");
        PaneStreet x = right(TWO + ";way 1 0;likes 1 0 7;fog 33;hour 13;night 77");
        due("way", x.isOpen(0, 1), true);
        due("likes", x.likes(1, 0), 7);
        due("not the other way round", x.likes(0, 1), 5);
        due("fog", x.count(6), 33);
        due("hour", x.count(4), 13);
        due("night", x.count(5), 77);
        due("what was told last counts", right("fog 1;hour 2;night 3;fog 4;hour 5;night 6").count(6), 4);
        wrong(TWO + ";way^");
        wrong(TWO + ";way 0^");
        wrong(TWO + ";way 0 1 ^1");
        wrong(TWO + ";way ^way");
        wrong(TWO + ";likes 0^");
        wrong(TWO + ";likes 0 1^");
        wrong(TWO + ";likes 0 1 5 ^5");
        for (String word : new String[] {"fog", "hour", "night"}) {
            wrong(word + "^");
            wrong(word + " ^;");
            wrong(word + " 1 ^1");
            wrong(word + " ^" + word);
        }
    }

    private static void whoIsThereByThen() {
        sentence("4", "(P: a PANE, W: a WALKER that there is by then;");
        right("pane;pane;walker at 0 taper 0;walker at 1 taper 0");
        wrong("walker at ^0 taper 0");
        wrong("pane;pane;walker at ^2 taper 0");
        wrong("pane;walker at ^1 taper 0;pane");
        right("pane;pane;walker at 0 taper 0 owns 1 heads 1");
        wrong("pane;pane;walker at 0 taper 0 owns ^2");
        wrong("pane;pane;walker at 0 taper 0 heads ^2");
        wrong("pane;walker at 0 taper 0 owns ^1;pane");
        wrong("pane;walker at 0 taper 0 heads ^1;pane");
        right("pane;pane;way 0 1");
        wrong("pane;pane;way 0 ^2");
        wrong("pane;pane;way ^2 0");
        wrong("pane;way 0 ^1;pane");
        wrong("pane;way ^1 0;pane");
        wrong("way ^0 1");
        right(TWO + ";likes 0 1 5;likes 1 0 5");
        wrong(TWO + ";likes 0 ^2 5");
        wrong(TWO + ";likes ^2 0 5");
        wrong("pane;walker at 0 taper 0;likes 0 ^1 5;walker at 0 taper 0");
        wrong("pane;walker at 0 taper 0;likes ^1 0 5;walker at 0 taper 0");
        wrong("likes ^0 1 5");
        wrongBehind("pane;pane", "way 0 ^2");
        PaneStreet x = right("pane;pane");
        due("by an earlier text", Check.street(x, "way 0 1"), 2);
        String nine = lines("pane", 9);
        right(nine + ";way 7 8;way 8 0");
        wrong(nine + ";way 8 ^9");
        String six = "pane;" + lines("walker at 0 taper 0", 6);
        right(six + ";likes 4 5 1;likes 5 0 1");
        wrong(six + ";likes 5 ^6 1");
        wrong(six + ";likes ^6 5 1");
    }

    private static void bounds() {
        sentence("4", "oil 0 to 99;");
        for (int oil : new int[] {0, 1, 98, 99}) {
            due("oil " + oil, right("pane oil " + oil).pane(0, 0), oil);
            due("taper " + oil, right("pane;walker at 0 taper " + oil).walker(0, 1), oil);
        }
        wrong("pane oil ^100");
        wrong("pane oil ^101 lit");
        wrong("pane oil ^999");
        wrong("pane;walker at 0 taper ^100");

        sentence("4", "lit: it is BURNING (with OIL 0 lit is wrong);");
        due("1", right("pane oil 1 lit").bright(), 1);
        due("99", right("pane oil 99 lit").bright(), 1);
        due("none told", right("pane lit").bright(), 1);
        due("0 alone", right("pane oil 0").bright(), 0);
        wrong("pane oil 0 ^lit");
        wrong("pane oil 00 ^lit;pane");
        wrong("pane oil 000^lit");
        due("0 ahead of a lit one", right("pane oil 0;pane lit").bright(), 0b10);

        sentence("4", "night: 0 to 999.)");
        for (int night : new int[] {0, 1, 998, 999}) {
            due("night " + night, right("night " + night).count(5), night);
        }
        wrong("night ^1000");
        wrong("night ^9999");
        for (int fog : new int[] {0, 1, 99, 100}) {
            due("fog " + fog, right("fog " + fog).count(6), fog);
        }
        wrong("fog ^101");
        for (int hour : new int[] {0, 1, 22, 23}) {
            due("hour " + hour, right("hour " + hour).count(4), hour);
        }
        wrong("hour ^24");
        wrong("hour ^-1");
    }

    private static void owners() {
        sentence("4", "owns: one that has no OWNER by then, else it is wrong at it (so a WALKER owns one at most);");
        due("the first", right("pane;walker at 0 taper 0 owns 0").pane(0, 2), 0);
        wrong("pane;pane;walker at 0 taper 0 owns 0;walker at 0 taper 0 owns ^0");
        wrong("pane;pane;walker at 0 taper 0 owns 0;walker at 0 taper 0 owns ^0 heads 5");
        due("another one", right("pane;pane;walker at 0 taper 0 owns 0;walker at 0 taper 0 owns 1").pane(1, 2), 1);
        wrongBehind("pane;walker at 0 taper 0 owns 0", "walker at 0 taper 0 owns ^0");
        PaneStreet x = right("pane;walker at 0 taper 0 owns 0");
        Check.street(x, "walker at 0 taper 0 owns 0");
        due("the owner stays", x.pane(0, 2), 0);
        PaneStreet all = right("pane;pane;pane;pane;pane;pane;walker at 0 taper 0 owns 5;walker at 0 taper 0 owns 4;"
            + "walker at 0 taper 0 owns 3;walker at 0 taper 0 owns 2;walker at 0 taper 0 owns 1;walker at 0 taper 0 owns 0");
        for (int pane = 0; pane < 6; pane++) {
            due("owner of " + pane, all.pane(pane, 2), 5 - pane);
        }
        wrong("pane;walker at 0 taper 0;^owns 0");
    }

    private static void twoUnlikeOnes() {
        sentence("4", "way: two unlike ones, else it is wrong at the second one;");
        due("unlike", right("pane;pane;way 1 0").count(10), 1);
        wrong("pane;pane;way 0 ^0");
        wrong("pane;pane;way 1 ^1");
        wrong("pane;pane;way 1 ^01;x");
        due("twice the same way is one", right("pane;pane;way 1 0;way 0 1").count(10), 1);

        sentence("4", "likes: the first one the second one, another one, else it is wrong at it, N 0 to 9;");
        for (int likes : new int[] {0, 1, 8, 9}) {
            PaneStreet x = right(TWO + ";likes 0 1 " + likes);
            due("of the first one " + likes, x.likes(0, 1), likes);
            due("not of the second one", x.likes(1, 0), 5);
        }
        wrong(TWO + ";likes 0 ^0 5");
        wrong(TWO + ";likes 1 ^1 5");
        wrong(TWO + ";likes 1 ^001 10");
        wrong(TWO + ";likes 0 1 ^10");
        wrong(TWO + ";likes 0 1 ^999");
    }

    private static void digits() {
        sentence("4", "Numbers are of 1 to 3 digits.");
        due("1", right("night 7").count(5), 7);
        due("2", right("night 07").count(5), 7);
        due("3", right("night 007").count(5), 7);
        wrong("night ^0007");
        wrong("night ^");
        due("100 is 3", right("fog 100").count(6), 100);
        wrong("fog ^0100");
        wrong("pane oil ^0000");
        right("pane;pane;way 000 001");
        wrong("pane;pane;way ^0000 1");
        wrong("pane;pane;way 0 ^0001");
        wrong("pane;walker at 0 taper ^0001");
        wrong("hour ^0000");
        wrong(TWO + ";likes 0 1 ^0005");
        wrong("fog ^" + "0".repeat(396));
        wrong("fog 1^.5");
        wrong("fog ^+1");
    }

    private static void wordsAndBlanks() {
        sentence("4", "Words are as long as a to z go on;");
        wrong("^panelit");
        wrong("^panes");
        wrong("^pan");
        wrong("^pan e");
        wrong("^Pane");
        wrong("^z");
        wrong("pane^`");
        wrong("pane^{");
        wrong("pane^A");
        wrong("pane^@");
        wrong("pane^[");
        due("a number ends a word", right("pane oil7lit").pane(0, 0), 7);
        due("and a word ends a number", right("fog7;hour8").count(4), 8);

        sentence("4", "between all there may be blanks (32), also ahead and behind.");
        right("pane;pane;way 0 1");
        due("none", right("pane;pane;walker at0taper1owns0heads0").walker(0, 1), 1);
        due("many", right("   pane   oil   3   lit   ;   fog   4   ").pane(0, 0), 3);
        wrong("pane^" + (char) 31 + ";pane");
        wrong("pane^!;pane");
        wrong("^" + (char) 31 + "pane");
        wrong("^!pane");
        wrong("pane^\t");
        wrong("pane^\n");
        wrong("pane^" + (char) 0);
        wrong("pane^" + (char) 160);
        wrong("pane^" + (char) 255);
        wrong("fog 1 ^2");

        sentence("4", "A text that is empty, or blanks alone, has no LINE.");
        right("");
        right(" ");
        PaneStreet x = new PaneStreet();
        due("400 blanks", Check.street(x, " ".repeat(400)), 1);
        due("nothing is there", counts(x), "0 0 1 -1 0 0 0 0 0 0 0 0 0 0");
        wrong(" ^;");
        wrong(" fog 1 ; ^");
    }

    private static void wrongBytes() {
        sentence("4, 6", "The first wrong byte: the begin of the first thing that cannot stand there (a number of more digits, "
            + "or out of its bounds, or that tells none that can be; a word that is none;");
        wrong("fog ^1234 x");
        wrong("fog ^101 x");
        wrong("pane;way ^1 9");
        wrong("fog 1;^fogg 1;x");
        wrong("fog 1;^kind 1");
        wrong("fog 1;^if");
        wrong("^owned");
        wrong("^1");
        wrong("^(");
        wrong(" ".repeat(399) + "^x");
        wrong("pane;" + " ".repeat(394) + "^1");

        sentence("4, 6", "of a LINE, a PANE, a WALKER too many, the first word)");
        wrong(lines("fog 1", 14) + ";   ^pane oil 100");
        wrong(lines("pane", 9) + "; ^pane oil 100");
        wrongBehind(lines("pane", 9), "fog 1; ^pane oil 100");
        wrongBehind("pane;" + lines("walker at 0 taper 0", 6), "fog 1; ^walker at 100");
        wrongBehind(lines("pane", 9), lines("fog 1", 14) + ";^pane");

        sentence("4, 6", "or the text's length, if more must come.");
        wrong("fog^");
        wrong("fog   ^");
        wrong("fog 1;   ^");
        wrong(" ".repeat(397) + "fog^");
        wrong(" ".repeat(396) + "fog ^");
        wrong("pane" + " ".repeat(395) + ";^");

        sentence("4", "Of a wrong text nothing stays.");
        wrongBehind(TWO, "pane oil 3 lit;walker at 2 taper 1 owns 2;way 0 1;likes 0 1 9;fog 50;hour 5;night 5;^x");
        PaneStreet x = Check.streetOf(TWO);
        Check.street(x, "likes 0 1 9;x");
        due("likes", x.likes(0, 1), 5);
        due("a pane that comes later is as at first", Check.street(x, "pane") + " " + x.pane(2, 0) + x.pane(2, 1)
            + x.pane(2, 2) + x.pane(2, 3), "2 200-10");
        Check.street(x, "walker at 0 taper 0 owns 0;likes 2 0 0;x");
        due("nor an owner", x.pane(0, 2), -1);
        Check.street(x, "walker at 0 taper 0");
        due("nor likes of a walker that did not come", x.likes(2, 0), 5);
    }
}
