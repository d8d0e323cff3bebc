import java.lang.reflect.InvocationTargetException;
import java.lang.reflect.Method;
import java.util.ArrayList;
import java.util.Arrays;
import java.util.Collections;
import java.util.List;
import java.util.Random;

/** Runs of calls by draws, each answered by the program and by the model, which have to agree. */
public final class ModelTest {
    private static final String[] STREET_WORDS = {"pane", "oil", "lit", "walker", "at", "taper", "owns", "heads",
        "way", "likes", "fog", "hour", "night", ";", "0", "1", "5", "12", "99", "100", "999", "1000", "007", "panes"};
    private static final String[] LAW_WORDS = {"kind", "cold", "pass", "if", "or", "and", "not", "(", ")", "owned",
        "misty", "<", ">", "+", "walker", "pane", "oil", "dark", "taper", "likes", "hour", ";", "0", "3", "20", "21",
        "999", "0012", "lit"};
    private static final String[] PARTS = {"walker", "pane", "oil", "dark", "taper", "likes", "hour"};

    private static final int MOST_CALLS = 512;
    private static final int LONGEST_STEP = 30;

    private final Random r;
    private final PaneStreet x = new PaneStreet();
    private final Model m = new Model();
    private final List<String> told = new ArrayList<>();
    private boolean agree = true;
    private int calls;

    private ModelTest(long seed) {
        r = new Random(seed);
    }

    public static void main(String[] args) {
        int runs = args.length > 0 ? Integer.parseInt(args[0]) : 300;
        int first = args.length > 1 ? Integer.parseInt(args[1]) : 1;
        for (int seed = first; seed < first + runs; seed++) {
            Check.begin("run by draws " + seed);
            ModelTest run = new ModelTest(seed);
            run.go();
            Check.due("all calls", run.agree ? "agree" : run.told.toString(), "agree");
        }
        Check.end();
    }

    private void go() {
        int law = r.nextInt(4);
        for (int i = 0; i < 3 + r.nextInt(2) && agree; i++) {
            text(i == 0 ? panesText() : rightStreet());
            call("street");
        }
        for (int i = 0; i < law && agree; i++) {
            text(rightLaw());
            call("law");
        }
        int steps = 150 + r.nextInt(150);
        for (int i = 0; agree && i < steps && calls < MOST_CALLS - LONGEST_STEP; i++) {
            step();
        }
        if (agree) {
            dump();
        }
    }

    private static Class<?> typeOf(Object o) {
        return o instanceof Boolean ? boolean.class : int.class;
    }

    private static Object answer(Object of, String name, Object[] args) {
        Class<?>[] types = new Class<?>[args.length];
        for (int i = 0; i < args.length; i++) {
            types[i] = typeOf(args[i]);
        }
        try {
            Method method = of.getClass().getMethod(name, types);
            Object got = method.invoke(of, args);
            return got == null ? "nothing" : got;
        } catch (InvocationTargetException e) {
            Throwable thrown = e.getCause();
            return of instanceof PaneStreet ? Check.nameOf(thrown) : "throws " + thrown.getClass().getSimpleName();
        } catch (ReflectiveOperationException e) {
            throw new IllegalStateException(e);
        }
    }

    private Object call(String name, Object... args) {
        calls++;
        Object got = answer(x, name, args);
        Object want = answer(m, name, args);
        StringBuilder line = new StringBuilder(name).append('(');
        for (Object arg : args) {
            line.append(arg).append(' ');
        }
        told.add(line + ") " + got);
        if (!got.equals(want)) {
            told.add("BUT DUE IS " + want);
            agree = false;
        }
        return got;
    }

    private void text(String text) {
        told.add("'" + text + "'");
        int[] bytes = text.chars().toArray();
        bytes(bytes);
    }

    private void bytes(int... bytes) {
        Check.feed(x, bytes);
        calls += 2 + Check.fives(bytes).length;
        m.end(0);
        for (int[] n : Check.fives(bytes)) {
            m.feed(n[0], n[1], n[2], n[3], n[4]);
        }
        m.end(bytes.length);
    }

    private int some(int count) {
        int[] odds = {-1 - r.nextInt(3), count, count + r.nextInt(300), Integer.MIN_VALUE, Integer.MAX_VALUE};
        int odd = r.nextInt(100);
        return odd < odds.length ? odds[odd] : r.nextInt(Math.max(count, 1));
    }

    private int pane() {
        return some(m.count(0));
    }

    private int walker() {
        return some(m.count(1));
    }

    private int number(int least, int most) {
        int odd = r.nextInt(30);
        int[] edges = {least - 1, least, most, most + 1, Integer.MIN_VALUE, Integer.MAX_VALUE};
        return odd < edges.length ? edges[odd] : least + r.nextInt(most - least + 1);
    }

    private void step() {
        int kind = r.nextInt(100);
        if (kind < 30) {
            act();
        } else if (kind < 92) {
            ask();
        } else if (kind < 95) {
            readText();
        } else {
            String[] all = {"undo", "undo", "undo", "image", "back"};
            call(all[r.nextInt(all.length)]);
        }
    }

    private void act() {
        switch (r.nextInt(13)) {
            case 0, 1, 2 -> call("hours", r.nextInt(3) > 0 ? 1 + r.nextInt(4) : number(1, 60));
            case 3, 4 -> call("heads", walker(), r.nextInt(9) == 0 ? -1 : pane());
            case 5 -> call("strike", walker());
            case 6 -> call("snuff", pane());
            case 7 -> call("oil", pane(), number(1, 99));
            case 8 -> call("taper", walker(), r.nextInt(2) == 0 ? 1 : number(1, 99));
            case 9, 10 -> call("like", walker(), walker(), number(0, 9));
            case 11 -> call("way", pane(), pane(), r.nextBoolean());
            default -> call("seed", r.nextInt());
        }
    }

    private void ask() {
        switch (r.nextInt(36)) {
            case 0, 1 -> call("pane", pane(), number(0, 7));
            case 2, 3 -> call("walker", walker(), number(0, 6));
            case 4 -> call("likes", walker(), walker());
            case 5 -> call("will", walker(), pane());
            case 6 -> call("lights", walker(), pane());
            case 7 -> call("isOpen", pane(), pane());
            case 8 -> call("far", pane(), pane());
            case 9 -> call(r.nextBoolean() ? "out" : "spoon");
            case 10 -> call("never");
            case 11 -> askRound();
            case 12 -> call("beats");
            case 13 -> call(r.nextBoolean() ? "parts" : "bend");
            case 14 -> call("closed", pane(), pane());
            case 15 -> {
                if (m.triesAllPairs()) {
                    call("madeUp");
                }
            }
            case 16, 17 -> askWalk();
            case 18 -> call("ring", walker());
            case 19 -> call("sides");
            case 20 -> call("pairs", walker());
            case 21 -> askLearnt();
            case 22 -> call("share", pane(), number(0, 999));
            case 23 -> call("rests", walker(), walker());
            case 24 -> call("odds", number(0, 6), number(0, 6));
            case 25 -> call(r.nextBoolean() ? "bright" : "gloom");
            case 26 -> call(r.nextBoolean() ? "lamplighter" : "spent");
            case 27 -> call(r.nextBoolean() ? "crowd" : "alike");
            case 28 -> call("ahead", pane(), number(0, 60), number(0, 2));
            case 29 -> call("trial", number(0, 60), r.nextBoolean());
            case 30 -> call("span", number(0, 60), r.nextBoolean());
            case 31 -> call("led", pane(), r.nextBoolean());
            case 32 -> call("log", number(0, 60), number(0, 4));
            case 33 -> call("count", number(0, 12));
            case 34 -> call("end", number(0, 3));
            default -> call("fault");
        }
    }

    private void askRound() {
        List<Integer> panes = new ArrayList<>();
        for (int p = 0; p < m.count(0); p++) {
            panes.add(p);
        }
        Collections.shuffle(panes, r);
        int n = Math.min(panes.size(), r.nextInt(8));
        if (r.nextInt(12) == 0) {
            panes.add(0, pane() & 255);
        }
        if (r.nextInt(20) == 0) {
            n = Math.min(panes.size(), 9);
        }
        bytes(panes.subList(0, n).stream().mapToInt(p -> p).toArray());
        call("round", walker(), r.nextBoolean());
    }

    private void askWalk() {
        int rows = r.nextInt(10) == 0 ? 19 + r.nextInt(3) : r.nextInt(4);
        int[] bytes = new int[2 * rows + (r.nextInt(20) == 0 ? 1 : 0)];
        for (int i = 0; i + 1 < bytes.length; i += 2) {
            bytes[i] = (rows > 10 ? 0 : pane()) & 255;
            bytes[i + 1] = r.nextInt(30) == 0 ? 21 : rows > 10 ? i / 2 % 21 : r.nextInt(21) / (1 + r.nextInt(4));
        }
        bytes(bytes);
        told.add(Arrays.toString(bytes));
        call(r.nextBoolean() ? "whoLit" : "ask");
    }

    private void askLearnt() {
        int rows = r.nextInt(20) == 0 ? 12 + r.nextInt(3) : r.nextInt(4);
        int[] bytes = new int[3 * rows + (r.nextInt(20) == 0 ? 1 : 0)];
        for (int i = 0; i + 2 < bytes.length; i += 3) {
            bytes[i] = walker() & 255;
            bytes[i + 1] = pane() & 255;
            bytes[i + 2] = r.nextInt(30) == 0 ? 2 : r.nextInt(2);
        }
        bytes(bytes);
        told.add(Arrays.toString(bytes));
        call("learnt");
    }

    private void readText() {
        boolean isLaw = r.nextInt(3) > 0;
        String text;
        switch (r.nextInt(4)) {
            case 0 -> text = words(isLaw ? LAW_WORDS : STREET_WORDS);
            case 1 -> text = isLaw ? rightLaw() : rightStreet();
            default -> text = bent(isLaw ? rightLaw() : rightStreet());
        }
        text(text);
        call(isLaw ? "law" : "street");
        call("fault");
    }

    private String words(String[] of) {
        StringBuilder b = new StringBuilder();
        for (int i = r.nextInt(7); i >= 0; i--) {
            b.append(of[r.nextInt(of.length)]).append(" ".repeat(r.nextInt(3)));
        }
        return b.toString();
    }

    /** One or two signs of a text taken out, put in, or changed. */
    private String bent(String text) {
        StringBuilder b = new StringBuilder(text);
        String signs = " ;();<>+09az\t%A\u00e9";
        for (int i = r.nextInt(2); i >= 0; i--) {
            int at = r.nextInt(b.length() + 1);
            char sign = signs.charAt(r.nextInt(signs.length()));
            int kind = r.nextInt(3);
            if (kind == 0 || at == b.length()) {
                b.insert(at, sign);
            } else if (kind == 1) {
                b.deleteCharAt(at);
            } else {
                b.setCharAt(at, sign);
            }
        }
        return b.length() > 400 ? b.substring(0, 400) : b.toString();
    }

    private String panesText() {
        StringBuilder b = new StringBuilder();
        int panes = 2 + r.nextInt(6);
        for (int p = 0; p < panes; p++) {
            b.append(p > 0 ? ";" : "").append("pane");
            b.append(r.nextInt(2) == 0 ? " oil " + r.nextInt(r.nextBoolean() ? 8 : 100) : "");
            b.append(r.nextInt(4) == 0 && !b.toString().endsWith(" 0") ? " lit" : "");
        }
        int walkers = 2 + r.nextInt(4);
        List<Integer> own = new ArrayList<>();
        for (int p = 0; p < panes; p++) {
            own.add(p);
        }
        Collections.shuffle(own, r);
        for (int w = 0; w < walkers; w++) {
            b.append(";walker at ").append(r.nextInt(panes)).append(" taper ").append(r.nextInt(6));
            b.append(w < panes && r.nextInt(4) > 0 ? " owns " + own.get(w) : "");
            b.append(r.nextInt(2) == 0 ? " heads " + r.nextInt(panes) : "");
        }
        return b.toString();
    }

    private String rightStreet() {
        StringBuilder b = new StringBuilder();
        int lines = 2 + r.nextInt(r.nextInt(6) == 0 ? 14 : 8);
        int panes = Math.max(m.count(0), 1);
        int walkers = Math.max(m.count(1), 1);
        for (int i = 0; i < lines; i++) {
            String blank = " ".repeat(r.nextInt(2));
            b.append(i > 0 ? blank + ";" + blank : blank);
            switch (r.nextInt(12)) {
                case 0 -> b.append("pane oil ").append(1 + r.nextInt(9)).append(r.nextInt(3) == 0 ? " lit" : "");
                case 1 -> b.append("walker at ").append(r.nextInt(panes)).append(" taper ").append(r.nextInt(9))
                    .append(r.nextInt(3) == 0 ? " owns " + r.nextInt(panes) : "");
                case 2, 3 -> b.append("likes ").append(r.nextInt(walkers)).append(' ')
                    .append(r.nextInt(walkers * 4) % (walkers + 1)).append(' ').append(r.nextInt(10));
                case 4 -> b.append("fog ").append(r.nextInt(101));
                case 5 -> b.append("hour ").append(r.nextInt(24));
                case 6 -> b.append("night ").append(r.nextInt(1000));
                default -> {
                    int p = r.nextInt(panes);
                    b.append("way ").append(p).append(' ')
                        .append((p + 1 + r.nextInt(r.nextInt(9) == 0 ? 20 : Math.max(panes - 1, 1))) % panes);
                }
            }
        }
        return b.toString();
    }

    private String rightLaw() {
        StringBuilder b = new StringBuilder();
        int lines = r.nextInt(20) == 0 ? 12 + r.nextInt(2) : 1 + r.nextInt(4);
        for (int i = 0; i < lines; i++) {
            b.append(i > 0 ? ";" : "").append(" ".repeat(r.nextInt(2)));
            int kind = r.nextInt(5);
            b.append(kind < 2 ? "kind " + r.nextInt(r.nextInt(3) == 0 ? 22 : 5)
                : kind < 4 ? "cold " + r.nextInt(5) : "pass");
            if (r.nextInt(5) > 0) {
                b.append(" if ").append(condition(lines > 4 ? 0 : 1 + r.nextInt(3)));
            }
        }
        String law = b.toString();
        return law.length() > 400 ? law.substring(0, 400) : law;
    }

    private String condition(int depth) {
        int kind = r.nextInt(10);
        if (depth > 0 && kind < 2) {
            return "not " + condition(depth - 1);
        }
        if (depth > 0 && kind < 4) {
            String inner = condition(depth - 1);
            int more = r.nextInt(8) == 0 ? r.nextInt(7) : 1;
            return "(".repeat(more) + inner + ")".repeat(more);
        }
        if (depth > 0 && kind < 8) {
            return condition(depth - 1) + (r.nextBoolean() ? " and " : " or ") + condition(depth - 1);
        }
        if (r.nextInt(5) == 0) {
            return r.nextBoolean() ? "owned" : "misty";
        }
        return sum() + (r.nextBoolean() ? "<" : " > ") + sum();
    }

    private String sum() {
        String part = r.nextInt(3) == 0 ? "" + r.nextInt(12) : PARTS[r.nextInt(PARTS.length)];
        return r.nextInt(4) == 0 ? part + "+" + sum() : part;
    }

    /** As much of all that can be seen of the street as the calls that are left allow. */
    private void dump() {
        List<Object[]> all = new ArrayList<>();
        for (int p = 0; p < m.count(0); p++) {
            for (int what = 0; what < 8; what++) {
                all.add(new Object[] {"pane", p, what});
            }
            for (int q = 0; q < m.count(0); q++) {
                all.add(new Object[] {"far", p, q});
                all.add(new Object[] {"closed", p, q});
                all.add(new Object[] {"isOpen", p, q});
            }
            all.add(new Object[] {"led", p, true});
            all.add(new Object[] {"led", p, false});
        }
        for (int w = 0; w < m.count(1); w++) {
            for (int what = 0; what < 7; what++) {
                all.add(new Object[] {"walker", w, what});
            }
            all.add(new Object[] {"ring", w});
            all.add(new Object[] {"pairs", w});
            for (int p = 0; p < m.count(0); p++) {
                all.add(new Object[] {"will", w, p});
                all.add(new Object[] {"lights", w, p});
            }
        }
        for (int ago = 0; ago <= m.count(11); ago++) {
            for (int what = 0; what < 5; what++) {
                all.add(new Object[] {"log", ago, what});
            }
        }
        for (int what = 0; what < 14; what++) {
            all.add(new Object[] {"count", what});
        }
        Collections.shuffle(all, r);
        for (int i = 0; i < all.size() && calls < MOST_CALLS && agree; i++) {
            Object[] one = all.get(i);
            call((String) one[0], Arrays.copyOfRange(one, 1, one.length));
        }
    }
}
