import java.util.ArrayList;
import java.util.HashMap;
import java.util.List;
import java.util.Map;
import java.util.TreeMap;

/**
 * The document once more, written with the Java library and without care for speed or room: the
 * tests hold the program against it. A row of bytes is a String of characters 0 to 255.
 */
final class Model {
    /** An entry without its path; links of one another are one node. */
    static final class Node {
        int kind;
        int mode;
        int owner;
        int group;
        int time;
        String body = "";
    }

    private String tape = "";
    TreeMap<String, Node> mine = new TreeMap<>();
    TreeMap<String, Node> yours = new TreeMap<>();
    private List<String> parts = new ArrayList<>();
    private String compressed = "";
    private String spelled = "";
    private final TreeMap<Integer, String> box = new TreeMap<>();
    private int boxCount = 0;

    int type(long w, int n) {
        if (n < 1 || n > 8) {
            throw new IllegalArgumentException();
        }
        if (tape.length() + n > 8000) {
            throw new UnsupportedOperationException();
        }
        for (int i = 0; i < n; i++) {
            tape += (char) (w >> 8 * i & 255);
        }
        return tape.length();
    }

    int again(int n) {
        if (n < 0 || n > tape.length()) {
            throw new IllegalArgumentException();
        }
        if (tape.length() + n > 8000) {
            throw new UnsupportedOperationException();
        }
        tape += tape.substring(tape.length() - n);
        return tape.length();
    }

    int tapeSize() {
        return tape.length();
    }

    private String readTape() {
        String row = tape;
        tape = "";
        return row;
    }

    int add(int kind, int n, int mode, int owner, int group, int time) {
        String row = readTape();
        if (kind < 0 || kind > 2 || n < 1 || n > 60 || n > row.length() || mode < 0 || mode > 4095
                || owner < 0 || group < 0 || time < 0) {
            throw new IllegalArgumentException();
        }
        Node node = new Node();
        node.kind = kind;
        node.mode = mode;
        node.owner = owner;
        node.group = group;
        node.time = time;
        node.body = row.substring(n);
        if (!isBody(node) || !isPath(row.substring(0, n), mine)) {
            throw new IllegalArgumentException();
        }
        return enter(row.substring(0, n), node);
    }

    int link(int i) {
        String path = readTape();
        if (i < 0 || i >= mine.size()) {
            throw new IndexOutOfBoundsException();
        }
        Node node = new ArrayList<>(mine.values()).get(i);
        if (node.kind != 1 || !isPath(path, mine)) {
            throw new IllegalArgumentException();
        }
        return enter(path, node);
    }

    private int enter(String path, Node node) {
        if (mine.containsKey(path)) {
            throw new IllegalStateException();
        }
        int more = node.kind == 1 ? node.body.length() : 0;
        if (mine.size() == 40 || contents(mine) + more > 6000) {
            throw new UnsupportedOperationException();
        }
        mine.put(path, node);
        return mine.size();
    }

    private static int contents(Map<String, Node> tree) {
        int sum = 0;
        for (Node node : tree.values()) {
            sum += node.kind == 1 ? node.body.length() : 0;
        }
        return sum;
    }

    private static boolean isBody(Node node) {
        int size = node.body.length();
        if (node.kind == 2) {
            return size >= 1 && size <= 60 && node.body.indexOf(0) < 0;
        }
        return node.kind == 1 || size == 0;
    }

    private static boolean isPath(String path, Map<String, Node> tree) {
        if (path.isEmpty() || path.length() > 60 || path.indexOf(0) >= 0) {
            return false;
        }
        for (String name : path.split("/", -1)) {
            if (name.isEmpty() || name.equals(".") || name.equals("..")) {
                return false;
            }
        }
        int slash = path.lastIndexOf('/');
        Node above = slash < 0 ? null : tree.get(path.substring(0, slash));
        return slash < 0 || above != null && above.kind == 0;
    }

    int clear() {
        int had = mine.size();
        mine = new TreeMap<>();
        return had;
    }

    int pack(int width, int length) {
        if (width < 9 || width > 16 || length < 40 || length > 4000) {
            throw new IllegalArgumentException();
        }
        String archive = archive(mine);
        if (archive.isEmpty()) {
            return -1;
        }
        String newCompressed = compress(archive, width);
        String newSpelled = spell(newCompressed);
        List<String> newParts = parts(newSpelled, length);
        if (newParts.size() > 999) {
            return -2;
        }
        compressed = newCompressed;
        spelled = newSpelled;
        parts = newParts;
        return parts.size();
    }

    int part(int k, int i) {
        if (k < 1 || k > parts.size() || i < -1 || i >= parts.get(k - 1).length()) {
            throw new IndexOutOfBoundsException();
        }
        return i == -1 ? parts.get(k - 1).length() : parts.get(k - 1).charAt(i);
    }

    int stage(int what, int i) {
        if (what < 0 || what > 2) {
            throw new IllegalArgumentException();
        }
        String row = what == 0 ? archive(mine) : what == 1 ? compressed : spelled;
        return i < 0 || i >= row.length() ? -1 : row.charAt(i);
    }

    int checksum() {
        return checksum(Check.bytes(readTape()));
    }

    int receive() {
        return come(readTape());
    }

    int pass(int k, int at, int x) {
        if (k < 1 || k > parts.size() || at < 0 || at >= parts.get(k - 1).length()) {
            throw new IndexOutOfBoundsException();
        }
        if (x < 0 || x > 255) {
            throw new IllegalArgumentException();
        }
        StringBuilder row = new StringBuilder(parts.get(k - 1));
        row.setCharAt(at, (char) (row.charAt(at) ^ x));
        return come(row.toString());
    }

    private int come(String row) {
        String number = "(0|[1-9][0-9]{0,9})";
        java.util.regex.Matcher line = java.util.regex.Pattern.compile(
                "(?s)PART " + number + " OF " + number + " SIZE " + number + " CKSUM " + number
                        + "\n(.*)").matcher(row);
        if (!line.matches()) {
            return 1;
        }
        long k = Long.parseLong(line.group(1));
        long n = Long.parseLong(line.group(2));
        long size = Long.parseLong(line.group(3));
        long sum = Long.parseLong(line.group(4));
        String piece = line.group(5);
        if (n < 1 || n > 999 || k < 1 || k > n || size > 48000 || sum > 4294967295L) {
            return 1;
        }
        if (!box.isEmpty() && boxCount != n) {
            return 2;
        }
        if (box.containsKey((int) k)) {
            return 3;
        }
        if (piece.length() != size) {
            return 4;
        }
        if ((int) sum != checksum(Check.bytes(piece))) {
            return 5;
        }
        boxCount = (int) n;
        box.put((int) k, piece);
        return 0;
    }

    void forge(int what, int width) {
        String row = readTape();
        if (what < 0 || what > 2 || what == 0 && (width < 9 || width > 16)) {
            throw new IllegalArgumentException();
        }
        box.clear();
        boxCount = 1;
        box.put(1, what == 2 ? row : spell(what == 1 ? row : compress(row, width)));
    }

    int empty() {
        int had = box.size();
        box.clear();
        return had;
    }

    int unpack() {
        if (box.isEmpty() || box.size() < boxCount) {
            return 6;
        }
        String text = String.join("", box.values());
        String bytes = text.length() > 48000 ? null : unspell(text);
        if (bytes == null) {
            return 7;
        }
        String archive = bytes.length() > 30000 ? null : decompress(bytes);
        if (archive == null || archive.length() > 16000) {
            return 8;
        }
        TreeMap<String, Node> tree = unarchive(archive);
        if (tree == null) {
            return 9;
        }
        yours = tree;
        box.clear();
        return 0;
    }

    /** What unpack() answers when the box holds a text. */
    static int unpackText(String text) {
        Model model = new Model();
        model.boxCount = 1;
        model.box.put(1, text);
        return model.unpack();
    }

    private TreeMap<String, Node> tree(int tree) {
        if (tree < 0 || tree > 1) {
            throw new IllegalArgumentException();
        }
        return tree == 0 ? mine : yours;
    }

    int about(int tree, int what, int i) {
        TreeMap<String, Node> asked = tree(tree);
        if (what == 0) {
            return asked.size();
        }
        if (what < 0 || what > 9 || i < 0 || i >= asked.size()) {
            throw new IndexOutOfBoundsException();
        }
        List<Node> nodes = new ArrayList<>(asked.values());
        Node node = nodes.get(i);
        int path = new ArrayList<>(asked.keySet()).get(i).length();
        int links = (int) nodes.stream().filter(other -> other == node).count();
        return new int[] {0, node.kind, node.mode, node.owner, node.group, node.time, path,
            node.body.length(), nodes.indexOf(node), links}[what];
    }

    int byteOf(int tree, int i, int k) {
        TreeMap<String, Node> asked = tree(tree);
        if (i < 0 || i >= asked.size()) {
            throw new IndexOutOfBoundsException();
        }
        String path = new ArrayList<>(asked.keySet()).get(i);
        String all = path + asked.get(path).body;
        if (k < 0 || k >= all.length()) {
            throw new IndexOutOfBoundsException();
        }
        return all.charAt(k);
    }

    /** The polynomial's remainder, bit by bit. */
    static int checksum(byte[] row) {
        StringBuilder bits = new StringBuilder();
        for (byte value : row) {
            bits.append(bits(value & 255));
        }
        for (int length = row.length; length > 0; length /= 256) {
            bits.append(bits(length % 256));
        }
        bits.append("0".repeat(32));
        long divisor = 1L << 32;
        for (int power : new int[] {26, 23, 22, 16, 12, 11, 10, 8, 7, 5, 4, 2, 1, 0}) {
            divisor |= 1L << power;
        }
        long rest = 0;
        for (int i = 0; i < bits.length(); i++) {
            rest = rest << 1 | bits.charAt(i) - '0';
            if ((rest & 1L << 32) != 0) {
                rest ^= divisor;
            }
        }
        return (int) ~rest;
    }

    private static String bits(int value) {
        return Integer.toBinaryString(256 | value).substring(1);
    }

    /** The archive of a tree, or no byte when it has none. */
    static String archive(TreeMap<String, Node> tree) {
        StringBuilder row = new StringBuilder();
        List<Node> nodes = new ArrayList<>(tree.values());
        for (Map.Entry<String, Node> entry : tree.entrySet()) {
            Node node = entry.getValue();
            if (node.owner > 0777777 || node.group > 0777777) {
                return "";
            }
            int links = (int) nodes.stream().filter(other -> other == node).count();
            row.append(header(entry.getKey(), node, nodes.indexOf(node) + 1, links));
            row.append(entry.getKey()).append('\0').append(node.body);
        }
        row.append("070707" + "000000".repeat(5) + "000001" + "000000" + "00000000000" + "000013"
                + "00000000000" + "TRAILER!!!\0");
        return row.toString();
    }

    static String header(String path, Node node, int number, int links) {
        int kind = new int[] {040000, 0100000, 0120000}[node.kind];
        return String.format("070707000000%06o%06o%06o%06o%06o000000%011o%06o%011o", number,
                kind + node.mode, node.owner, node.group, links, node.time, path.length() + 1,
                node.body.length());
    }

    /** The tree, every field judged by itself, or null. */
    private static TreeMap<String, Node> unarchive(String row) {
        TreeMap<String, Node> tree = new TreeMap<>();
        List<Node> nodes = new ArrayList<>();
        List<Integer> told = new ArrayList<>();
        int at = 0;
        String trailer = archive(new TreeMap<>());
        while (!row.substring(at).equals(trailer)) {
            if (row.length() < at + 76 || !row.substring(at, at + 76).matches("[0-7]*")) {
                return null;
            }
            int[] field = new int[11];
            int[] size = {6, 6, 6, 6, 6, 6, 6, 6, 11, 6, 11};
            for (int i = 0; i < 11; i++) {
                long value = Long.parseLong(row.substring(at, at + size[i]), 8);
                if (value > Integer.MAX_VALUE) {
                    return null;
                }
                field[i] = (int) value;
                at += size[i];
            }
            if (field[0] != 070707 || field[1] != 0 || field[7] != 0 || field[9] < 2
                    || row.length() - at < field[9]
                    || row.length() - at - field[9] < field[10]
                    || row.charAt(at + field[9] - 1) != 0) {
                return null;
            }
            String path = row.substring(at, at + field[9] - 1);
            at += field[9];
            Node node = new Node();
            node.kind = field[3] >> 12 == 4 ? 0 : field[3] >> 12 == 8 ? 1
                    : field[3] >> 12 == 10 ? 2 : -1;
            node.mode = field[3] & 07777;
            node.owner = field[4];
            node.group = field[5];
            node.time = field[8];
            node.body = row.substring(at, at + field[10]);
            at += field[10];
            if (node.kind < 0 || !isBody(node) || !isPath(path, tree)
                    || !tree.isEmpty() && tree.lastKey().compareTo(path) >= 0) {
                return null;
            }
            if (field[2] != nodes.size() + 1) {
                if (field[2] < 1 || field[2] > nodes.size() || node.kind != 1) {
                    return null;
                }
                Node first = nodes.get(field[2] - 1);
                if (nodes.indexOf(first) != field[2] - 1 || first.kind != 1
                        || first.mode != node.mode || first.owner != node.owner
                        || first.group != node.group || first.time != node.time
                        || !first.body.equals(node.body)) {
                    return null;
                }
                node = first;
            }
            tree.put(path, node);
            nodes.add(node);
            told.add(field[6]);
        }
        for (int i = 0; i < nodes.size(); i++) {
            Node node = nodes.get(i);
            if (nodes.stream().filter(other -> other == node).count() != told.get(i)) {
                return null;
            }
        }
        return tree.size() > 40 || contents(tree) > 6000 ? null : tree;
    }

    /** Each code is written as letters 0 and 1; bytes are made of them at the end. */
    static String compress(String row, int greatest) {
        StringBuilder bits = new StringBuilder();
        Map<String, Integer> table = new HashMap<>();
        int next = 257;
        int width = 9;
        int groupStart = 0;
        String left = row;
        while (!left.isEmpty()) {
            int size = 1;
            while (size < left.length() && table.containsKey(left.substring(0, size + 1))) {
                size++;
            }
            String string = left.substring(0, size);
            int code = size == 1 ? string.charAt(0) : table.get(string);
            if (next > 1 << width && width < greatest) {
                pad(bits, groupStart, width);
                groupStart = bits.length();
                width++;
            }
            putCode(bits, code, width);
            left = left.substring(size);
            if (!left.isEmpty() && next == 1 << greatest) {
                putCode(bits, 256, width);
                pad(bits, groupStart, width);
                groupStart = bits.length();
                width = 9;
                table.clear();
                next = 257;
            } else if (!left.isEmpty()) {
                table.put(string + left.charAt(0), next++);
            }
        }
        StringBuilder bytes = new StringBuilder("\u001f\u009d" + (char) (128 + greatest));
        bits.append("0".repeat((8 - bits.length() % 8) % 8));
        for (int i = 0; i < bits.length(); i += 8) {
            String value = new StringBuilder(bits.substring(i, i + 8)).reverse().toString();
            bytes.append((char) Integer.parseInt(value, 2));
        }
        return bytes.toString();
    }

    private static void putCode(StringBuilder bits, int code, int width) {
        for (int i = 0; i < width; i++) {
            bits.append(code >> i & 1);
        }
    }

    private static void pad(StringBuilder bits, int groupStart, int width) {
        while ((bits.length() - groupStart) % (8 * width) != 0) {
            bits.append('0');
        }
    }

    /** What the bytes were, or null; told at once when that is more than 16000. */
    private static String decompress(String bytes) {
        if (bytes.length() < 3 || bytes.charAt(0) != 31 || bytes.charAt(1) != 157
                || bytes.charAt(2) < 137 || bytes.charAt(2) > 144) {
            return null;
        }
        int greatest = bytes.charAt(2) - 128;
        StringBuilder bits = new StringBuilder();
        for (int i = 3; i < bytes.length(); i++) {
            bits.append(new StringBuilder(bits(bytes.charAt(i))).reverse());
        }
        StringBuilder row = new StringBuilder();
        List<String> table = new ArrayList<>();
        String last = null;
        int width = 9;
        int groupStart = 0;
        int at = 0;
        while (row.length() <= 16000) {
            int next = 257 + table.size() + (last == null ? 0 : 1);
            boolean full = next > 1 << greatest;
            if (!full && next > 1 << width && width < greatest) {
                at += (8 * width - (at - groupStart) % (8 * width)) % (8 * width);
                groupStart = at;
                width++;
            }
            if (at + width > bits.length()) {
                break;
            }
            int code = Integer.parseInt(
                    new StringBuilder(bits.substring(at, at + width)).reverse().toString(), 2);
            at += width;
            if (full) {
                if (code != 256) {
                    return null;
                }
                at += (8 * width - (at - groupStart) % (8 * width)) % (8 * width);
                groupStart = at;
                width = 9;
                last = null;
                table.clear();
                continue;
            }
            if (code == 256 || code >= next) {
                return null;
            }
            String string;
            if (code < 256) {
                string = String.valueOf((char) code);
            } else if (code - 257 < table.size()) {
                string = table.get(code - 257);
            } else {
                string = last + last.charAt(0);
            }
            if (last != null) {
                table.add(last + string.charAt(0));
            }
            row.append(string);
            last = string;
        }
        if (row.length() > 16000) {
            return null;
        }
        return compress(row.toString(), greatest).equals(bytes) ? row.toString() : null;
    }

    static String spell(String row) {
        StringBuilder text = new StringBuilder("begin 644 mail\n");
        for (int at = 0; at < row.length(); at += 45) {
            String line = row.substring(at, Math.min(at + 45, row.length()));
            text.append((char) (32 + line.length()));
            String padded = line + "\0\0";
            for (int i = 0; i < line.length(); i += 3) {
                String bits = bits(padded.charAt(i)) + bits(padded.charAt(i + 1))
                        + bits(padded.charAt(i + 2));
                for (int j = 0; j < 24; j += 6) {
                    int six = Integer.parseInt(bits.substring(j, j + 6), 2);
                    text.append((char) (six == 0 ? 96 : 32 + six));
                }
            }
            text.append('\n');
        }
        return text.append("`\nend\n").toString();
    }

    /** The bytes, every line judged by itself, or null. */
    private static String unspell(String text) {
        if (!text.startsWith("begin 644 mail\n") || !text.endsWith("\n`\nend\n")) {
            return null;
        }
        StringBuilder row = new StringBuilder();
        String middle = text.substring(15, text.length() - 6);
        if (text.length() < 21) {
            return null;
        }
        String[] lines = middle.isEmpty() ? new String[0] : middle.split("\n", -1);
        if (lines.length > 0 && !lines[lines.length - 1].isEmpty()) {
            return null;
        }
        for (int i = 0; i + 1 < lines.length; i++) {
            String line = lines[i];
            if (line.isEmpty() || !line.matches("[!-`]*")) {
                return null;
            }
            int size = line.charAt(0) - 32;
            if (size < 1 || size > 45 || i + 2 < lines.length && size < 45
                    || line.length() != 1 + (size + 2) / 3 * 4) {
                return null;
            }
            StringBuilder bits = new StringBuilder();
            for (int j = 1; j < line.length(); j++) {
                int six = line.charAt(j) == 96 ? 0 : line.charAt(j) - 32;
                bits.append(bits(six).substring(2));
            }
            if (bits.substring(8 * size).indexOf("1") >= 0) {
                return null;
            }
            for (int j = 0; j < size; j++) {
                row.append((char) Integer.parseInt(bits.substring(8 * j, 8 * j + 8), 2));
            }
        }
        return row.toString();
    }

    static List<String> parts(String text, int length) {
        List<String> parts = new ArrayList<>();
        int n = (text.length() + length - 1) / length;
        for (int k = 1; k <= n; k++) {
            String piece = text.substring((k - 1) * length, Math.min(k * length, text.length()));
            parts.add(part(k, n, piece));
        }
        return parts;
    }

    static String part(int k, int n, String piece) {
        long sum = checksum(Check.bytes(piece)) & 4294967295L;
        return "PART " + k + " OF " + n + " SIZE " + piece.length() + " CKSUM " + sum + "\n"
                + piece;
    }
}
