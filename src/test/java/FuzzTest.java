import java.util.ArrayList;
import java.util.List;
import java.util.Random;
import java.util.TreeMap;

/** All promises: runs of calls by chance (the same each time) on the program and on the model. */
public final class FuzzTest {
    private static final int RUNS = 1500;
    private static final int MOST_CALLS = 512;
    /** What a run does most: many entries, great contents, wrong mail; or all of these. */
    private static final int STYLE_MANY = 1;
    private static final int STYLE_GREAT = 2;
    private static final int STYLE_FORGE = 3;
    private static final int STYLES = 4;

    private final Random chance;
    private final MailChain chain = new MailChain();
    private final Model model = new Model();
    private final List<String> calls = new ArrayList<>();
    private final int style;
    private boolean wrong = false;

    /** Styles take turns: the first numbers by chance of neighbouring seeds are much alike. */
    private FuzzTest(int run) {
        chance = new Random(run);
        style = run % STYLES;
    }

    public static void main(String[] args) {
        int runs = args.length > 0 ? Integer.parseInt(args[0]) : RUNS;
        int total = 0;
        for (int run = 0; run < runs; run++) {
            FuzzTest test = new FuzzTest(run);
            test.run();
            total += test.calls.size();
            if (test.wrong) {
                System.out.println("run " + run + ":\n" + String.join("\n", test.calls));
                System.exit(1);
            }
        }
        System.out.println(runs + " runs, " + total + " calls, none of them wrong");
    }

    /** Does a call on both, and looks for the same answer or exception. */
    private long both(String call, Check.Call first, Check.Call second) {
        if (wrong || calls.size() >= MOST_CALLS) {
            return -9;
        }
        String got = answer(first);
        String want = answer(second);
        calls.add(call + " answered " + got);
        if (!got.equals(want)) {
            calls.add("due is " + want);
            wrong = true;
        }
        return got.startsWith("throws") ? -9 : Long.parseLong(got);
    }

    private static String answer(Check.Call call) {
        try {
            return String.valueOf(call.answer());
        } catch (RuntimeException e) {
            return "throws." + e.getClass().getSimpleName();
        }
    }

    private void run() {
        while (!wrong && calls.size() < MOST_CALLS) {
            int dice = below(100);
            int growing = style == STYLE_FORGE ? 20 : 75;
            if (dice < growing) {
                grow();
            } else if (dice < growing + 10) {
                look();
            } else if (style != STYLE_FORGE) {
                mail();
            } else if (dice < 90) {
                forge();
            } else {
                foreignParts();
            }
        }
        mail();
    }

    private int pick(int... values) {
        return values[chance.nextInt(values.length)];
    }

    private int below(int bound) {
        return chance.nextInt(bound);
    }

    private void type(String row) {
        for (int at = 0; at < row.length(); at += 8) {
            int n = Math.min(8, row.length() - at);
            long w = below(2) == 0 ? 0 : -1L << 8 * n - 1 << 1;
            for (int i = 0; i < n; i++) {
                w |= (long) row.charAt(at + i) << 8 * i;
            }
            long word = w;
            both("type(" + word + ", " + n + ")", () -> chain.type(word, n),
                    () -> model.type(word, n));
        }
    }

    private void again(int n) {
        both("again(" + n + ")", () -> chain.again(n), () -> model.again(n));
    }

    private String name() {
        String[] names = {"a", "b", "c", "a.", "..", ".", "", "...", "TRAILER!!!", "a\u00ff",
            "\u00c3", "d", "e", "f", "g", "-", "x\u0000", "nnnnnnnnnnnnnnnnnnnn"};
        int usual = below(8);
        return usual > 0 ? "" + (char) pick('a', 'b', 'c', 'd', 200 + below(50))
                : names[below(names.length)];
    }

    private String path() {
        List<String> known = new ArrayList<>(model.mine.keySet());
        if (style == STYLE_MANY && below(4) > 0) {
            return "" + (char) (1 + below(46)) + (char) (48 + below(208));
        }
        String path = name();
        int depth = below(3);
        known.removeIf(other -> model.mine.get(other).kind != 0 && below(4) > 0);
        if (!known.isEmpty() && below(2) > 0) {
            path = known.get(below(known.size())) + "/" + path;
        }
        if (below(8) == 0 && !known.isEmpty()) {
            path = known.get(below(known.size()));
        }
        if (below(6) == 0) {
            path += (char) below(256);
        }
        for (int i = 0; i < depth && below(6) == 0; i++) {
            path += "/" + name();
        }
        if (below(30) == 0) {
            path += "p".repeat(Math.max(0, 59 + below(3) - path.length()));
        }
        return path;
    }

    private String body(int kind) {
        if (kind == 0) {
            return below(12) == 0 ? "x" : "";
        }
        int size = kind == 2 ? pick(0, 1, 5, 60, 61) : pick(0, 1, 7, 30, 100);
        StringBuilder row = new StringBuilder();
        int letters = pick(1, 2, 4, 256);
        for (int i = 0; i < size; i++) {
            int value = letters == 256 ? below(256) : 'a' + below(letters);
            row.append((char) (kind == 2 && value == 0 && below(40) > 0 ? 1 : value));
        }
        return row.toString();
    }

    private void grow() {
        int dice = below(20);
        if (dice == 0 && below(style == STYLE_MANY ? 40 : 4) == 0) {
            both("clear()", chain::clear, model::clear);
        } else if (dice < 5) {
            type(path());
            int i = below(10) == 0 ? pick(-1, 99, model.mine.size())
                    : below(model.mine.size() + 1);
            both("link(" + i + ")", () -> chain.link(i), () -> model.link(i));
        } else if (dice < 7) {
            wildTape();
        } else {
            addEntry();
        }
    }

    private void wildTape() {
        int n = pick(0, 1, 2, 7, 8, 9, -1);
        long w = chance.nextLong();
        both("type(" + w + ", " + n + ")", () -> chain.type(w, n), () -> model.type(w, n));
        again(pick(0, 1, -1, model.tapeSize(), model.tapeSize() + 1));
        if (below(2) == 0) {
            both("checksum()", chain::checksum, model::checksum);
        }
    }

    private void addEntry() {
        int kind = below(25) == 0 ? pick(-1, 3) : pick(0, 0, 1, 1, 1, 2);
        String path = path();
        type(path + body(kind));
        if (kind == 1 && style == STYLE_GREAT) {
            for (int i = below(10); i > 0; i--) {
                again(below(2 + model.tapeSize()));
            }
        }
        int n = below(20) == 0 ? pick(0, 1, 60, 61, -1, path.length() + 1) : path.length();
        int mode = below(25) == 0 ? pick(-1, 4096) : pick(0, 420, 4095);
        int owner = below(25) == 0 ? pick(-1, 262144, Integer.MAX_VALUE) : pick(0, 8, 262143);
        int group = below(25) == 0 ? pick(-1, 262144, Integer.MAX_VALUE) : pick(0, 8, 262143);
        int time = below(25) == 0 ? -1 : pick(0, 1234567, Integer.MAX_VALUE);
        both("add(" + kind + ", " + n + ", " + mode + ", " + owner + ", " + group + ", " + time
                + ")", () -> chain.add(kind, n, mode, owner, group, time),
                () -> model.add(kind, n, mode, owner, group, time));
    }

    private void mail() {
        int width = below(10) == 0 ? pick(8, 17) : 9 + below(8);
        int length = below(10) == 0 ? pick(39, 4001) : pick(40, 41, 62, 100, 333, 1000, 4000);
        int parts = (int) both("pack(" + width + ", " + length + ")",
                () -> chain.pack(width, length), () -> model.pack(width, length));
        if (parts < 1) {
            return;
        }
        int order = below(parts);
        for (int i = 0; i < parts && i < 60; i++) {
            pass(1 + (i + order) % parts, below(12) > 0 ? 0 : pick(below(60), below(4000)),
                    below(12) > 0 ? 0 : pick(1, 2, 4, 128, 255, 256, -1));
        }
        unpack();
    }

    private void pass(int k, int at, int x) {
        both("pass(" + k + ", " + at + ", " + x + ")", () -> chain.pass(k, at, x),
                () -> model.pass(k, at, x));
    }

    private void unpack() {
        both("unpack()", chain::unpack, model::unpack);
        if (below(4) == 0) {
            both("empty()", chain::empty, model::empty);
        }
    }

    private String mutated(String row) {
        StringBuilder changed = new StringBuilder(row);
        for (int times = below(2) == 0 ? 0 : 1 + below(2); times > 0; times--) {
            if (changed.length() == 0) {
                return "x";
            }
            int at = below(3) == 0 ? changed.length() - 1 - below(Math.min(8, changed.length()))
                    : below(changed.length());
            switch (below(5)) {
                case 0:
                    changed.setCharAt(at, (char) (changed.charAt(at) ^ 1 << below(8)));
                    break;
                case 1:
                    changed.deleteCharAt(at);
                    break;
                case 2:
                    changed.insert(at, (char) pick(0, 10, 32, 48, 49, 96, 255));
                    break;
                case 3:
                    changed.setCharAt(at, (char) pick(0, 10, 32, 48, 49, 50, 55, 96));
                    break;
                default:
                    changed.append((char) pick(0, 10, 32, 48, 96));
                    break;
            }
        }
        return changed.toString();
    }

    private TreeMap<String, Model.Node> smallTree() {
        TreeMap<String, Model.Node> tree = new TreeMap<>();
        Model.Node last = null;
        for (int i = below(4); i > 0; i--) {
            Model.Node node = new Model.Node();
            node.kind = pick(0, 1, 1, 2);
            node.mode = pick(0, 0644, 07777);
            node.owner = pick(0, 9, 262143);
            node.group = pick(0, 9, 262143);
            node.time = pick(0, 5, Integer.MAX_VALUE);
            node.body = node.kind == 0 ? "" : pick(1, 2) == 1 ? "zz" : "TRAILER!!!";
            boolean links = last != null && last.kind == 1 && below(2) == 0;
            node = links ? last : node;
            String[] paths = {"a", "b", "c", "a/b", "a/c", "TRAILER!!!", "b/a", "...", "./c"};
            tree.put(paths[below(below(6) == 0 ? paths.length : 6)], node);
            last = node;
        }
        return tree;
    }

    private void forge() {
        int what = below(20) == 0 ? pick(-1, 3) : below(3);
        int width = what == 0 && below(10) == 0 ? pick(8, 17) : 9 + below(8);
        String archive = below(3) == 0 ? Model.archive(model.mine) : Model.archive(smallTree());
        if (what == 0) {
            archive = mutated(archive);
        }
        String row = archive;
        if (what != 0) {
            row = Model.compress(row, below(8) == 0 ? 9 : 9 + below(8));
            row = what == 1 ? mutated(row) : mutated(Model.spell(row));
        }
        if (row.length() > 1600) {
            row = row.substring(0, 1600);
        }
        type(row);
        both("forge(" + what + ", " + width + ")",
                () -> { chain.forge(what, width); return 0; },
                () -> { model.forge(what, width); return 0; });
        unpack();
    }

    private void foreignParts() {
        String text = Model.spell(Model.compress(Model.archive(smallTree()), 9 + below(8)));
        List<String> parts = Model.parts(text, pick(40, 100, 150));
        for (String part : parts) {
            type(below(3) == 0 ? mutated(part) : part);
            both("receive()", chain::receive, model::receive);
        }
        unpack();
    }

    private void look() {
        int tree = below(20) == 0 ? pick(-1, 2) : below(2);
        int size = tree == 1 ? model.yours.size() : model.mine.size();
        int i = below(10) == 0 ? pick(-1, size, 41) : below(size + 1);
        int what = below(15) == 0 ? pick(-1, 10) : below(10);
        both("about(" + tree + ", " + what + ", " + i + ")", () -> chain.about(tree, what, i),
                () -> model.about(tree, what, i));
        int k = pick(-1, 0, 1, 2, 3, below(20), below(200));
        both("byteOf(" + tree + ", " + i + ", " + k + ")", () -> chain.byteOf(tree, i, k),
                () -> model.byteOf(tree, i, k));
        int stage = below(15) == 0 ? pick(-1, 3) : below(3);
        int at = pick(-1, 0, below(100), below(1000), below(6000));
        both("stage(" + stage + ", " + at + ")", () -> chain.stage(stage, at),
                () -> model.stage(stage, at));
        int part = below(6);
        int letter = pick(-2, -1, below(60), below(400), 5000);
        both("part(" + part + ", " + letter + ")", () -> chain.part(part, letter),
                () -> model.part(part, letter));
    }
}
