import java.math.BigInteger;
import java.util.ArrayList;
import java.util.Arrays;
import java.util.List;
import java.util.NoSuchElementException;

/**
 * The document told a second time, in other ways than the program's: lists and trees in place of rows and
 * steps, trying all in place of counting. It is there to be compared with the program, not to be fast.
 */
public final class Model {
    static final class Pane {
        int oil;
        boolean burning;
        int owner = -1;
        int dark;

        Pane copy() {
            Pane p = new Pane();
            p.oil = oil;
            p.burning = burning;
            p.owner = owner;
            p.dark = dark;
            return p;
        }
    }

    static final class Walker {
        int at;
        int taper;
        int heads = -1;
        int lit;

        Walker copy() {
            Walker w = new Walker();
            w.at = at;
            w.taper = taper;
            w.heads = heads;
            w.lit = lit;
            return w;
        }
    }

    /** Everything but the tape, the fault and the image. */
    static final class State {
        List<Pane> panes = new ArrayList<>();
        List<Walker> walkers = new ArrayList<>();
        boolean[][] way = new boolean[9][9];
        int[][] likes = new int[6][6];
        int texts;
        int hour;
        int night;
        int fog;
        boolean mist;
        int seed = 1;
        List<int[]> log = new ArrayList<>();
        List<Line> law;

        State() {
            for (int[] row : likes) {
                Arrays.fill(row, 5);
            }
        }

        State copy() {
            State s = new State();
            for (Pane p : panes) {
                s.panes.add(p.copy());
            }
            for (Walker w : walkers) {
                s.walkers.add(w.copy());
            }
            for (int i = 0; i < 9; i++) {
                s.way[i] = way[i].clone();
            }
            for (int i = 0; i < 6; i++) {
                s.likes[i] = likes[i].clone();
            }
            s.texts = texts;
            s.hour = hour;
            s.night = night;
            s.fog = fog;
            s.mist = mist;
            s.seed = seed;
            s.log.addAll(log);
            s.law = law;
            return s;
        }
    }

    /** What a condition is asked about. */
    record Asked(int walker, int pane, int oil, int dark, int taper, int likes, int hour, boolean owned, boolean misty) {
    }

    interface Condition {
        boolean holds(Asked a);
    }

    interface Sum {
        int of(Asked a);
    }

    record Line(String kind, int n, Condition condition) {
    }

    @SuppressWarnings("serial")
    static final class Wrong extends Exception {
        final int at;

        Wrong(int at) {
            super(null, null, false, false);
            this.at = at;
        }
    }

    private final List<Integer> tape = new ArrayList<>();
    private State s = new State();
    private State image;
    private final List<State> acts = new ArrayList<>();
    private int fault = -1;

    // ---- the tape

    public int feed(int a, int b, int c, int d, int e) {
        if (tape.size() + 20 > 400) {
            return -1;
        }
        for (int n : new int[] {a, b, c, d, e}) {
            for (int k = 3; k >= 0; k--) {
                tape.add((n >>> (8 * k)) & 0xff);
            }
        }
        return tape.size();
    }

    public boolean end(int n) {
        if (n < 0 || tape.size() < n) {
            return false;
        }
        while (tape.size() > n) {
            tape.remove(tape.size() - 1);
        }
        return true;
    }

    private int[] usedUp() {
        int[] all = tape.stream().mapToInt(i -> i).toArray();
        tape.clear();
        return all;
    }

    // ---- texts, read sign by sign

    private static final class Signs {
        final String text;
        int pos;

        Signs(int[] bytes) {
            StringBuilder b = new StringBuilder();
            for (int x : bytes) {
                b.append((char) x);
            }
            text = b.toString();
            blanks();
        }

        void blanks() {
            while (pos < text.length() && text.charAt(pos) == ' ') {
                pos++;
            }
        }

        String run(char low, char high) {
            int to = pos;
            while (to < text.length() && text.charAt(to) >= low && text.charAt(to) <= high) {
                to++;
            }
            return text.substring(pos, to);
        }

        String word() {
            return run('a', 'z');
        }

        boolean word(String w) {
            if (!word().equals(w)) {
                return false;
            }
            pos += w.length();
            blanks();
            return true;
        }

        void mustWord(String w) throws Wrong {
            if (!word(w)) {
                throw new Wrong(pos);
            }
        }

        boolean sign(char c) {
            if (pos >= text.length() || text.charAt(pos) != c) {
                return false;
            }
            pos++;
            blanks();
            return true;
        }

        boolean isNumber() {
            return !run('0', '9').isEmpty();
        }

        int number(int least, int most) throws Wrong {
            String digits = run('0', '9');
            if (digits.isEmpty() || digits.length() > 3) {
                throw new Wrong(pos);
            }
            int n = Integer.parseInt(digits);
            if (n < least || n > most) {
                throw new Wrong(pos);
            }
            pos += digits.length();
            blanks();
            return n;
        }

        boolean atEnd() {
            return pos >= text.length();
        }
    }

    public int street() {
        Signs t = new Signs(usedUp());
        State to = s.copy();
        fault = -1;
        try {
            int lines = 0;
            while (!t.atEnd() || lines > 0) {
                if (lines == 14) {
                    throw new Wrong(t.pos);
                }
                streetLine(t, to);
                lines++;
                if (t.atEnd()) {
                    break;
                }
                if (!t.sign(';')) {
                    throw new Wrong(t.pos);
                }
            }
        } catch (Wrong w) {
            fault = w.at;
            throw new IllegalArgumentException("wrong");
        }
        if (s.texts == 12) {
            throw new UnsupportedOperationException("twelve");
        }
        to.texts++;
        s = to;
        acts.clear();
        return s.texts;
    }

    private static void streetLine(Signs t, State to) throws Wrong {
        int begin = t.pos;
        String word = t.word();
        int panes = to.panes.size();
        int walkers = to.walkers.size();
        switch (word) {
            case "pane" -> {
                t.word("pane");
                if (panes == 9) {
                    throw new Wrong(begin);
                }
                Pane p = new Pane();
                p.oil = t.word("oil") ? t.number(0, 99) : 20;
                int litAt = t.pos;
                if (t.word("lit")) {
                    if (p.oil == 0) {
                        throw new Wrong(litAt);
                    }
                    p.burning = true;
                }
                to.panes.add(p);
            }
            case "walker" -> {
                t.word("walker");
                if (walkers == 6) {
                    throw new Wrong(begin);
                }
                Walker w = new Walker();
                t.mustWord("at");
                w.at = t.number(0, panes - 1);
                t.mustWord("taper");
                w.taper = t.number(0, 99);
                if (t.word("owns")) {
                    int at = t.pos;
                    Pane own = to.panes.get(t.number(0, panes - 1));
                    if (own.owner >= 0) {
                        throw new Wrong(at);
                    }
                    own.owner = walkers;
                }
                if (t.word("heads")) {
                    w.heads = t.number(0, panes - 1);
                }
                to.walkers.add(w);
            }
            case "way" -> {
                t.word("way");
                int a = t.number(0, panes - 1);
                int at = t.pos;
                int b = t.number(0, panes - 1);
                if (a == b) {
                    throw new Wrong(at);
                }
                to.way[a][b] = true;
                to.way[b][a] = true;
            }
            case "likes" -> {
                t.word("likes");
                int a = t.number(0, walkers - 1);
                int at = t.pos;
                int b = t.number(0, walkers - 1);
                if (a == b) {
                    throw new Wrong(at);
                }
                to.likes[a][b] = t.number(0, 9);
            }
            case "fog" -> {
                t.word("fog");
                to.fog = t.number(0, 100);
            }
            case "hour" -> {
                t.word("hour");
                to.hour = t.number(0, 23);
            }
            case "night" -> {
                t.word("night");
                to.night = t.number(0, 999);
            }
            default -> throw new Wrong(begin);
        }
    }

    public int law() {
        Signs t = new Signs(usedUp());
        List<Line> lines = new ArrayList<>();
        fault = -1;
        try {
            while (!t.atEnd() || !lines.isEmpty()) {
                if (lines.size() == 12) {
                    throw new Wrong(t.pos);
                }
                lines.add(lawLine(t));
                if (t.atEnd()) {
                    break;
                }
                if (!t.sign(';')) {
                    throw new Wrong(t.pos);
                }
            }
        } catch (Wrong w) {
            fault = w.at;
            throw new IllegalArgumentException("wrong");
        }
        s.law = lines;
        acts.clear();
        return lines.size();
    }

    private static Line lawLine(Signs t) throws Wrong {
        String kind = t.word();
        int n = 0;
        switch (kind) {
            case "kind", "cold" -> {
                t.word(kind);
                n = t.number(0, 20);
            }
            case "pass" -> t.word(kind);
            default -> throw new Wrong(t.pos);
        }
        Condition c = a -> true;
        if (t.word("if")) {
            c = condition(t, 0);
        }
        return new Line(kind, n, c);
    }

    private static Condition condition(Signs t, int depth) throws Wrong {
        Condition left = all(t, depth);
        while (t.word("or")) {
            Condition one = left;
            Condition other = all(t, depth);
            left = a -> one.holds(a) || other.holds(a);
        }
        return left;
    }

    private static Condition all(Signs t, int depth) throws Wrong {
        Condition left = atom(t, depth);
        while (t.word("and")) {
            Condition one = left;
            Condition other = atom(t, depth);
            left = a -> one.holds(a) && other.holds(a);
        }
        return left;
    }

    private static Condition atom(Signs t, int depth) throws Wrong {
        int begin = t.pos;
        if (t.word("not")) {
            if (depth == 6) {
                throw new Wrong(begin);
            }
            Condition inner = atom(t, depth + 1);
            return a -> !inner.holds(a);
        }
        if (t.sign('(')) {
            if (depth == 6) {
                throw new Wrong(begin);
            }
            Condition inner = condition(t, depth + 1);
            if (!t.sign(')')) {
                throw new Wrong(t.pos);
            }
            return inner;
        }
        if (t.word("owned")) {
            return Asked::owned;
        }
        if (t.word("misty")) {
            return Asked::misty;
        }
        Sum left = sum(t);
        if (t.sign('<')) {
            Sum right = sum(t);
            return a -> left.of(a) < right.of(a);
        }
        if (t.sign('>')) {
            Sum right = sum(t);
            return a -> left.of(a) > right.of(a);
        }
        throw new Wrong(t.pos);
    }

    private static Sum sum(Signs t) throws Wrong {
        Sum left = part(t);
        while (t.sign('+')) {
            Sum one = left;
            Sum other = part(t);
            left = a -> one.of(a) + other.of(a);
        }
        return left;
    }

    private static Sum part(Signs t) throws Wrong {
        if (t.isNumber()) {
            int n = t.number(0, 999);
            return a -> n;
        }
        String word = t.word();
        Sum found = switch (word) {
            case "walker" -> Asked::walker;
            case "pane" -> Asked::pane;
            case "oil" -> Asked::oil;
            case "dark" -> Asked::dark;
            case "taper" -> Asked::taper;
            case "likes" -> Asked::likes;
            case "hour" -> Asked::hour;
            default -> throw new Wrong(t.pos);
        };
        t.word(word);
        return found;
    }

    public int fault() {
        return fault;
    }

    // ---- the law asked

    private static Asked asked(State s, int w, int p, int likes, int taper) {
        Pane pane = s.panes.get(p);
        return new Asked(w, p, pane.oil, pane.dark, taper, likes, s.hour, pane.owner >= 0, s.mist);
    }

    private static int likesNow(State s, int w, int p) {
        int owner = s.panes.get(p).owner;
        return owner < 0 || owner == w ? 5 : s.likes[w][owner];
    }

    private static int willOf(State s, Asked a) {
        int sum = a.likes();
        if (s.law != null) {
            for (Line line : s.law) {
                if (line.condition().holds(a)) {
                    sum += line.kind().equals("kind") ? line.n() : line.kind().equals("cold") ? -line.n() : 0;
                }
            }
        }
        return sum;
    }

    private static boolean lightsWith(State s, int w, int p, int likes, int taper) {
        Pane pane = s.panes.get(p);
        Asked a = asked(s, w, p, likes, taper);
        boolean passes = s.law != null
                && s.law.stream().anyMatch(line -> line.kind().equals("pass") && line.condition().holds(a));
        return taper > 0 && !pane.burning && pane.oil > 0 && pane.owner != w && willOf(s, a) >= 5 && !passes;
    }

    private static boolean lightsNow(State s, int w, int p) {
        return lightsWith(s, w, p, likesNow(s, w, p), s.walkers.get(w).taper);
    }

    // ---- tests of arguments

    private void needPane(int p) {
        if (p < 0 || p >= s.panes.size()) {
            throw new IndexOutOfBoundsException("pane");
        }
    }

    private void needWalker(int w) {
        if (w < 0 || w >= s.walkers.size()) {
            throw new IndexOutOfBoundsException("walker");
        }
    }

    private static void argument(boolean is) {
        if (!is) {
            throw new IllegalArgumentException("argument");
        }
    }

    private void act() {
        acts.add(s.copy());
        if (acts.size() > 12) {
            acts.remove(0);
        }
    }

    // ---- ways

    /** FAR of all pairs; 99 is none. */
    private static int[][] fars(State s) {
        int n = s.panes.size();
        int[][] far = new int[n][n];
        for (int a = 0; a < n; a++) {
            for (int b = 0; b < n; b++) {
                far[a][b] = a == b ? 0 : s.way[a][b] ? 1 : 99;
            }
        }
        for (int k = 0; k < n; k++) {
            for (int a = 0; a < n; a++) {
                for (int b = 0; b < n; b++) {
                    far[a][b] = Math.min(far[a][b], far[a][k] + far[k][b]);
                }
            }
        }
        for (int[] row : far) {
            for (int b = 0; b < n; b++) {
                row[b] = Math.min(row[b], 99);
            }
        }
        return far;
    }

    // ---- hours

    private static void write(State s, int kind, int p, int w) {
        s.log.add(new int[] {s.night, s.hour, kind, p, w});
        if (s.log.size() > 60) {
            s.log.remove(0);
        }
    }

    private static void lit(State s, int w, int kind) {
        Walker walker = s.walkers.get(w);
        Pane pane = s.panes.get(walker.at);
        pane.burning = true;
        pane.dark = 0;
        walker.taper--;
        walker.lit = Math.min(999, walker.lit + 1);
        if (pane.owner >= 0) {
            s.likes[pane.owner][w] = Math.min(9, s.likes[pane.owner][w] + 1);
        }
        write(s, kind, walker.at, w);
    }

    private static int hour(State s, boolean draws) {
        s.mist = false;
        if (draws) {
            s.seed = 1103515245 * s.seed + 12345;
            int draw = (s.seed & 0x7fff0000) >>> 16;
            s.mist = draw % 100 < s.fog;
        }
        int[][] far = fars(s);
        if (!s.mist) {
            for (Walker w : s.walkers) {
                if (w.heads >= 0 && w.heads != w.at && far[w.at][w.heads] < 99) {
                    int from = w.at;
                    for (int p = s.panes.size() - 1; p >= 0; p--) {
                        if (s.way[from][p] && far[p][w.heads] == far[from][w.heads] - 1) {
                            w.at = p;
                        }
                    }
                }
                if (w.at == w.heads) {
                    w.heads = -1;
                }
            }
        }
        int count = 0;
        for (int w = 0; w < s.walkers.size(); w++) {
            if (lightsNow(s, w, s.walkers.get(w).at)) {
                lit(s, w, 0);
                count++;
            }
        }
        for (int p = 0; p < s.panes.size(); p++) {
            Pane pane = s.panes.get(p);
            if (pane.burning && --pane.oil == 0) {
                pane.burning = false;
                write(s, 2, p, -1);
            }
            if (!pane.burning) {
                pane.dark = Math.min(99, pane.dark + 1);
            }
        }
        if (++s.hour == 24) {
            s.hour = 0;
            s.night = Math.min(9999, s.night + 1);
        }
        return count;
    }

    private State later(int n, boolean draws) {
        State then = s.copy();
        for (int i = 0; i < n; i++) {
            hour(then, draws);
        }
        return then;
    }

    private static int bright(State s) {
        int bits = 0;
        for (int p = 0; p < s.panes.size(); p++) {
            bits |= s.panes.get(p).burning ? 1 << p : 0;
        }
        return bits;
    }

    private static int oilOfAll(State s) {
        return s.panes.stream().mapToInt(p -> p.oil).sum();
    }

    // ---- the face

    public int pane(int p, int what) {
        needPane(p);
        Pane pane = s.panes.get(p);
        switch (what) {
            case 0: return pane.oil;
            case 1: return pane.burning ? 1 : 0;
            case 2: return pane.owner;
            case 3: return pane.dark;
            case 4: return can(s, p);
            case 5:
                for (int n = 0; n <= 60; n++) {
                    if (later(n, false).panes.get(p).burning) {
                        return n;
                    }
                }
                return -1;
            case 6: {
                int bits = 0;
                for (int w = 0; w < s.walkers.size() && !pane.burning && pane.owner >= 0; w++) {
                    if (lightsNow(s, w, p) || lightsWith(s, w, p, 9, s.walkers.get(w).taper)) {
                        bits |= 1 << w;
                    }
                }
                return bits;
            }
            case 7: return pane.burning ? pane.oil : 0;
            default: throw new NoSuchElementException("what");
        }
    }

    private static int can(State s, int p) {
        int bits = 0;
        for (int w = 0; w < s.walkers.size(); w++) {
            bits |= lightsNow(s, w, p) ? 1 << w : 0;
        }
        return bits;
    }

    public int walker(int w, int what) {
        needWalker(w);
        Walker walker = s.walkers.get(w);
        switch (what) {
            case 0: return walker.at;
            case 1: return walker.taper;
            case 2: return walker.heads;
            case 3: return walker.lit;
            case 4: {
                int sum = 0;
                for (int p = 0; p < s.panes.size(); p++) {
                    boolean near = fars(s)[walker.at][p] < 99;
                    int taper = walker.taper == 0 ? 1 : walker.taper;
                    sum += near && lightsWith(s, w, p, likesNow(s, w, p), taper) ? 1 : 0;
                }
                return sum;
            }
            case 5: return turn(w);
            case 6: {
                int all = count(9);
                return all == 0 ? 0 : 100 * walker.lit / all;
            }
            default: throw new NoSuchElementException("what");
        }
    }

    private int turn(int w) {
        int[][] far = fars(s);
        int found = -1;
        int best = 99;
        for (int p = 0; p < s.panes.size(); p++) {
            int owner = s.panes.get(p).owner;
            if (owner < 0 || owner == w || !lightsNow(s, w, p) || far[s.walkers.get(w).at][p] >= best) {
                continue;
            }
            State thanked = s.copy();
            thanked.likes[owner][w] = Math.min(9, thanked.likes[owner][w] + 1);
            boolean inTurn = false;
            for (int own = 0; own < s.panes.size(); own++) {
                inTurn |= s.panes.get(own).owner == w && lightsNow(thanked, owner, own);
            }
            if (inTurn) {
                best = far[s.walkers.get(w).at][p];
                found = p;
            }
        }
        return found;
    }

    public int likes(int w, int o) {
        needWalker(w);
        needWalker(o);
        argument(w != o);
        return s.likes[w][o];
    }

    public int will(int w, int p) {
        needWalker(w);
        needPane(p);
        return willOf(s, asked(s, w, p, likesNow(s, w, p), s.walkers.get(w).taper));
    }

    public boolean lights(int w, int p) {
        needWalker(w);
        needPane(p);
        return lightsNow(s, w, p);
    }

    public boolean isOpen(int p, int o) {
        needPane(p);
        needPane(o);
        argument(p != o);
        return s.way[p][o];
    }

    public int hours(int n) {
        argument(n >= 1 && n <= 60);
        act();
        int count = 0;
        for (int i = 0; i < n; i++) {
            count += hour(s, true);
        }
        return count;
    }

    public int heads(int w, int p) {
        needWalker(w);
        if (p != -1) {
            needPane(p);
        }
        act();
        int was = s.walkers.get(w).heads;
        s.walkers.get(w).heads = p;
        return was;
    }

    public int strike(int w) {
        needWalker(w);
        Walker walker = s.walkers.get(w);
        Pane pane = s.panes.get(walker.at);
        if (walker.taper == 0 || pane.burning || pane.owner == w || pane.oil == 0) {
            throw new IllegalStateException("strike");
        }
        act();
        lit(s, w, 1);
        return walker.taper;
    }

    public int snuff(int p) {
        needPane(p);
        Pane pane = s.panes.get(p);
        if (!pane.burning || pane.owner < 0) {
            throw new IllegalStateException("snuff");
        }
        act();
        pane.burning = false;
        write(s, 3, p, pane.owner);
        return pane.oil;
    }

    public int oil(int p, int n) {
        needPane(p);
        argument(n >= 1 && n <= 99);
        act();
        return s.panes.get(p).oil = Math.min(99, s.panes.get(p).oil + n);
    }

    public int taper(int w, int n) {
        needWalker(w);
        argument(n >= 1 && n <= 99);
        act();
        return s.walkers.get(w).taper = Math.min(99, s.walkers.get(w).taper + n);
    }

    public int like(int w, int o, int n) {
        needWalker(w);
        needWalker(o);
        argument(w != o && n >= 0 && n <= 9);
        act();
        int was = s.likes[w][o];
        s.likes[w][o] = n;
        return was;
    }

    public boolean way(int p, int o, boolean is) {
        needPane(p);
        needPane(o);
        argument(p != o);
        act();
        boolean was = s.way[p][o];
        s.way[p][o] = is;
        s.way[o][p] = is;
        return was != is;
    }

    public int far(int p, int o) {
        needPane(p);
        needPane(o);
        int far = fars(s)[p][o];
        return far == 99 ? -1 : far;
    }

    public int out() {
        for (int n = 0; n <= 60; n++) {
            if (bright(later(n, false)) == 0) {
                return n;
            }
        }
        return -1;
    }

    public int spoon() {
        for (int n = 0; n <= 60; n++) {
            State then = later(n, false);
            for (int p = 0; p < then.panes.size(); p++) {
                if (then.panes.get(p).owner >= 0 && then.panes.get(p).dark >= 3) {
                    return p;
                }
            }
        }
        return -1;
    }

    public int never() {
        int bits = 0;
        for (int p = 0; p < s.panes.size(); p++) {
            bits |= !s.panes.get(p).burning && can(s, p) == 0 ? 1 << p : 0;
        }
        return bits;
    }

    private int bestSteps;
    private int bestFirst;

    public int round(int w, boolean next) {
        int[] told = usedUp();
        needWalker(w);
        argument(told.length <= 8);
        Arrays.sort(told);
        for (int i = 0; i < told.length; i++) {
            argument(told[i] < s.panes.size());
            argument(i == 0 || told[i] != told[i - 1]);
        }
        if (told.length == 0) {
            return next ? -1 : 0;
        }
        bestSteps = 99;
        bestFirst = -1;
        orders(fars(s), told, new boolean[told.length], s.walkers.get(w).at, 0, 0, -1);
        return next ? bestFirst : bestSteps == 99 ? -1 : bestSteps;
    }

    /** Tries all orders, the first by the numbers first. */
    private void orders(int[][] far, int[] told, boolean[] gone, int at, int steps, int n, int first) {
        if (steps >= bestSteps) {
            return;
        }
        if (n == told.length) {
            bestSteps = steps;
            bestFirst = first;
            return;
        }
        for (int i = 0; i < told.length; i++) {
            if (!gone[i]) {
                gone[i] = true;
                orders(far, told, gone, told[i], steps + far[at][told[i]], n + 1, n == 0 ? told[i] : first);
                gone[i] = false;
            }
        }
    }

    public int beats() {
        int n = s.panes.size();
        int[][] far = fars(s);
        int best = (1 << n) - 1;
        for (int set = 0; set < 1 << n; set++) {
            boolean all = true;
            for (int p = 0; p < n; p++) {
                boolean near = false;
                for (int q = 0; q < n; q++) {
                    near |= (set & 1 << q) != 0 && far[p][q] <= 1;
                }
                all &= near;
            }
            if (all && (Integer.bitCount(set) < Integer.bitCount(best)
                    || Integer.bitCount(set) == Integer.bitCount(best) && set < best)) {
                best = set;
            }
        }
        return best;
    }

    public int parts() {
        int[][] far = fars(s);
        int parts = 0;
        for (int p = 0; p < s.panes.size(); p++) {
            boolean first = true;
            for (int q = 0; q < p; q++) {
                first &= far[p][q] == 99;
            }
            parts += first ? 1 : 0;
        }
        return parts;
    }

    public int bend() {
        int[][] far = fars(s);
        int bits = 0;
        for (int p = 0; p < s.panes.size(); p++) {
            State without = s.copy();
            for (int q = 0; q < 9; q++) {
                without.way[p][q] = false;
                without.way[q][p] = false;
            }
            int[][] less = fars(without);
            for (int a = 0; a < s.panes.size(); a++) {
                for (int b = 0; b < s.panes.size(); b++) {
                    if (a != p && b != p && far[a][b] < 99 && less[a][b] == 99) {
                        bits |= 1 << p;
                    }
                }
            }
        }
        return bits;
    }

    /** By a flow: as many as there are walks that share no way. */
    public int closed(int p, int o) {
        needPane(p);
        needPane(o);
        if (p == o) {
            return -1;
        }
        int n = s.panes.size();
        int[][] free = new int[n][n];
        for (int a = 0; a < n; a++) {
            for (int b = 0; b < n; b++) {
                free[a][b] = s.way[a][b] ? 1 : 0;
            }
        }
        int flow = 0;
        while (push(free, p, o, new boolean[n])) {
            flow++;
        }
        return flow;
    }

    private static boolean push(int[][] free, int at, int to, boolean[] seen) {
        if (at == to) {
            return true;
        }
        seen[at] = true;
        for (int next = 0; next < free.length; next++) {
            if (!seen[next] && free[at][next] > 0 && push(free, next, to, seen)) {
                free[at][next]--;
                free[next][at]++;
                return true;
            }
        }
        return false;
    }

    /** Tries all sets of pairs. */
    public int madeUp() {
        List<int[]> pairs = new ArrayList<>();
        for (int w = 0; w < s.walkers.size(); w++) {
            for (Pane p : s.panes) {
                if (p.owner >= 0 && p.owner != w) {
                    pairs.add(new int[] {w, p.owner});
                }
            }
        }
        int best = 99;
        int all = 1 << Math.min(pairs.size(), 12);
        for (int set = 0; set < all; set++) {
            if (Integer.bitCount(set) < best) {
                State told = s.copy();
                for (int i = 0; i < pairs.size(); i++) {
                    if ((set & 1 << i) != 0) {
                        told.likes[pairs.get(i)[0]][pairs.get(i)[1]] = 9;
                    }
                }
                boolean good = true;
                for (int p = 0; p < told.panes.size() && good; p++) {
                    Pane pane = told.panes.get(p);
                    good = pane.owner < 0 || pane.burning || can(told, p) != 0;
                }
                best = good ? Integer.bitCount(set) : best;
            }
        }
        return best == 99 ? -1 : best;
    }

    /** Whether madeUp tried all: with more pairs it is not to be compared. */
    boolean triesAllPairs() {
        int owners = (int) s.panes.stream().filter(p -> p.owner >= 0).count();
        return owners * (s.walkers.size() - 1) <= 12;
    }

    private int places() {
        int[] told = usedUp();
        argument(told.length <= 40 && told.length % 2 == 0);
        for (int i = 0; i < told.length; i += 2) {
            argument(told[i] < s.panes.size() && told[i + 1] <= 20);
        }
        int bits = 0;
        for (int p = 0; p < s.panes.size(); p++) {
            bits |= mayBe(told, p, 0) ? 1 << p : 0;
        }
        return bits;
    }

    private byte[][] known;

    /** Whether some walk that fits ends at a pane so many hours ago. */
    private boolean mayBe(int[] told, int p, int ago) {
        if (ago == 0) {
            known = known == null || p == 0 ? new byte[21][9] : known;
        }
        if (known[ago][p] != 0) {
            return known[ago][p] == 1;
        }
        boolean fits = true;
        for (int i = 0; i < told.length; i += 2) {
            fits &= told[i + 1] != ago || told[i] == p;
        }
        boolean came = ago == 20;
        for (int q = 0; q < s.panes.size() && fits && !came; q++) {
            came = (q == p || s.way[p][q]) && mayBe(told, q, ago + 1);
        }
        known[ago][p] = (byte) (fits && came ? 1 : 2);
        return fits && came;
    }

    public int whoLit() {
        return places();
    }

    public int ask() {
        int places = places();
        if (Integer.bitCount(places) < 2) {
            return -1;
        }
        int[][] far = fars(s);
        int best = 99;
        int found = -1;
        for (int q = 0; q < s.panes.size(); q++) {
            int[] sizes = new int[100];
            for (int p = 0; p < s.panes.size(); p++) {
                sizes[far[q][p]] += places >> p & 1;
            }
            int most = Arrays.stream(sizes).max().getAsInt();
            if (most < best) {
                best = most;
                found = q;
            }
        }
        return found;
    }

    public boolean ring(int w) {
        needWalker(w);
        List<Integer> gone = new ArrayList<>();
        int one = w;
        while (!gone.contains(one)) {
            gone.add(one);
            int turn = turn(one);
            if (turn < 0) {
                return false;
            }
            one = s.panes.get(turn).owner;
            if (one == w) {
                return true;
            }
        }
        return false;
    }

    public int sides() {
        int n = s.walkers.size();
        if (n < 2) {
            return -1;
        }
        int best = -1;
        int found = -1;
        for (int set = 1; set < (1 << n) - 1; set++) {
            if ((set & 1) == 0) {
                int sum = 0;
                for (int a = 0; a < n; a++) {
                    for (int b = a + 1; b < n; b++) {
                        sum += (set >> a & 1) == (set >> b & 1) ? s.likes[a][b] + s.likes[b][a] : 0;
                    }
                }
                if (sum > best) {
                    best = sum;
                    found = set;
                }
            }
        }
        return found;
    }

    private int[] bestWith;
    private int bestLikes;

    public int pairs(int w) {
        if (w != -1) {
            needWalker(w);
        }
        bestLikes = -1;
        bestWith = null;
        int[] with = new int[s.walkers.size()];
        Arrays.fill(with, -1);
        couple(fars(s), with, 0);
        return w == -1 ? bestLikes : bestWith[w];
    }

    /** Tries all rows of partners, and keeps the best, of several the first. */
    private void couple(int[][] far, int[] with, int i) {
        if (i == with.length) {
            int sum = 0;
            for (int a = 0; a < with.length; a++) {
                sum += with[a] >= 0 ? s.likes[a][with[a]] : 0;
            }
            if (sum > bestLikes || sum == bestLikes && Arrays.compare(with, bestWith) < 0) {
                bestLikes = sum;
                bestWith = with.clone();
            }
            return;
        }
        couple(far, with, i + 1);
        for (int j = i + 1; j < with.length && with[i] < 0; j++) {
            if (with[j] < 0 && far[s.walkers.get(i).at][s.walkers.get(j).at] < 99) {
                with[i] = j;
                with[j] = i;
                couple(far, with, i + 1);
                with[i] = -1;
                with[j] = -1;
            }
        }
    }

    public int learnt() {
        int[] told = usedUp();
        argument(told.length <= 39 && told.length % 3 == 0);
        int bits = 0x3fe;
        for (int i = 0; i < told.length; i += 3) {
            argument(told[i] < s.walkers.size() && told[i + 1] < s.panes.size() && told[i + 2] <= 1);
            int owner = s.panes.get(told[i + 1]).owner;
            argument(owner >= 0 && owner != told[i]);
            for (int l = 1; l <= 9; l++) {
                boolean least = s.likes[told[i]][owner] >= l;
                if (least != (told[i + 2] == 1)) {
                    bits &= ~(1 << l);
                }
            }
        }
        return bits;
    }

    public int share(int p, int n) {
        needPane(p);
        argument(n >= 0 && n <= 999);
        State then = s.copy();
        for (int i = 0; i < n; i++) {
            int least = then.panes.stream().mapToInt(q -> q.oil).min().getAsInt();
            for (Pane q : then.panes) {
                if (q.oil == least) {
                    q.oil = Math.min(99, q.oil + 1);
                    break;
                }
            }
        }
        return then.panes.get(p).oil;
    }

    public int rests(int w, int o) {
        needWalker(w);
        needWalker(o);
        argument(w != o);
        int[] mine = {s.likes[w][o] - 3, -2, 4, 0};
        int[] his = {s.likes[o][w] - 3, -2, 4, 0};
        int bits = 0;
        for (int c = 0; c < 4; c++) {
            int first = c / 2;
            int second = c % 2;
            boolean firstStays = mine[c] >= mine[2 * (1 - first) + second];
            boolean secondStays = his[2 * second + first] >= his[2 * (1 - second) + first];
            bits |= firstStays && secondStays ? 1 << c : 0;
        }
        return bits;
    }

    /** Goes through each way that mist may come and not come. */
    public int odds(int n, int k) {
        argument(n >= 0 && n <= 6 && k >= 0 && k <= 6);
        BigInteger sum = BigInteger.ZERO;
        for (int mists = 0; mists < 1 << n; mists++) {
            BigInteger product = BigInteger.ONE;
            for (int i = 0; i < n; i++) {
                product = product.multiply(BigInteger.valueOf((mists >> i & 1) != 0 ? s.fog : 100 - s.fog));
            }
            sum = Integer.bitCount(mists) >= k ? sum.add(product) : sum;
        }
        return sum.multiply(BigInteger.valueOf(10000)).divide(BigInteger.valueOf(100).pow(n)).intValue();
    }

    public int bright() {
        return bright(s);
    }

    public int gloom() {
        int most = s.panes.stream().mapToInt(p -> p.dark).max().orElse(-1);
        for (int p = 0; p < s.panes.size(); p++) {
            if (s.panes.get(p).dark == most) {
                return p;
            }
        }
        return -1;
    }

    public int lamplighter() {
        int most = s.walkers.stream().mapToInt(w -> w.lit).max().orElse(0);
        for (int w = 0; w < s.walkers.size() && most > 0; w++) {
            if (s.walkers.get(w).lit == most) {
                return w;
            }
        }
        return -1;
    }

    public int spent() {
        int bits = 0;
        for (int w = 0; w < s.walkers.size(); w++) {
            bits |= s.walkers.get(w).taper == 0 ? 1 << w : 0;
        }
        return bits;
    }

    public int crowd() {
        int[] here = new int[9];
        for (Walker w : s.walkers) {
            here[w.at]++;
        }
        int most = Arrays.stream(here).max().getAsInt();
        for (int p = 0; p < 9 && most > 0; p++) {
            if (here[p] == most) {
                return p;
            }
        }
        return -1;
    }

    public int alike() {
        int sum = 0;
        for (Walker a : s.walkers) {
            for (Walker b : s.walkers) {
                sum += a != b && a.taper == b.taper && a.at == b.at ? 1 : 0;
            }
        }
        return sum / 2;
    }

    public int ahead(int p, int n, int what) {
        needPane(p);
        argument(n >= 0 && n <= 60);
        Pane pane = later(n, false).panes.get(p);
        switch (what) {
            case 0: return pane.oil;
            case 1: return pane.burning ? 1 : 0;
            case 2: return pane.dark;
            default: throw new NoSuchElementException("what");
        }
    }

    public int trial(int n, boolean oil) {
        argument(n >= 0 && n <= 60);
        State then = later(n, true);
        return oil ? oilOfAll(then) : bright(then);
    }

    public int span(int n, boolean most) {
        argument(n >= 0 && n <= 60);
        List<Integer> all = new ArrayList<>();
        int seed = s.seed;
        for (int i = 1; i <= 6; i++) {
            s.seed = i;
            all.add(Integer.bitCount(bright(later(n, true))));
        }
        s.seed = seed;
        return most ? all.stream().max(Integer::compare).get() : all.stream().min(Integer::compare).get();
    }

    public int led(int p, boolean night) {
        needPane(p);
        List<int[]> of = s.log.stream().filter(row -> row[3] == p).toList();
        return !night ? of.size() : of.isEmpty() ? -1 : of.get(of.size() - 1)[0];
    }

    public int log(int ago, int what) {
        if (what < 0 || what > 4) {
            throw new NoSuchElementException("what");
        }
        return ago < 0 || ago >= s.log.size() ? -2 : s.log.get(s.log.size() - 1 - ago)[what];
    }

    public int seed(int n) {
        int was = s.seed;
        s.seed = n;
        return was;
    }

    public boolean undo() {
        if (acts.isEmpty()) {
            return false;
        }
        s = acts.remove(acts.size() - 1);
        return true;
    }

    public void image() {
        image = s.copy();
    }

    public boolean back() {
        if (image == null) {
            return false;
        }
        s = image.copy();
        acts.clear();
        return true;
    }

    public int count(int what) {
        switch (what) {
            case 0: return s.panes.size();
            case 1: return s.walkers.size();
            case 2: return s.texts;
            case 3: return s.law == null ? -1 : s.law.size();
            case 4: return s.hour;
            case 5: return s.night;
            case 6: return s.fog;
            case 7: return s.mist ? 1 : 0;
            case 8: return oilOfAll(s);
            case 9: return s.walkers.stream().mapToInt(w -> w.lit).sum();
            case 10: {
                int ways = 0;
                for (int a = 0; a < 9; a++) {
                    for (int b = 0; b < a; b++) {
                        ways += s.way[a][b] ? 1 : 0;
                    }
                }
                return ways;
            }
            case 11: return s.log.size();
            case 12: return acts.size();
            default: return -1;
        }
    }
}
