import java.util.Arrays;

/**
 * A chain that makes mail of files, and files of mail: a tree becomes an archive, which is
 * compressed, spelled in letters and cut into parts; parts that come back become the tree again.
 *
 * <p>All rows are made with the object and used again: a call makes nothing but what it throws.
 */
public final class MailChain {
    private static final int MOST_TAPE = 8000;
    private static final int MOST_PATH = 60;
    private static final int MOST_TARGET = 60;
    private static final int MOST_MODE = 4095;
    private static final int MOST_ENTRIES = 40;
    private static final int MOST_CONTENTS = 6000;
    private static final int MOST_PARTS = 999;
    private static final int MOST_TEXT = 48000;
    private static final int MOST_COMPRESSED = 30000;
    private static final int MOST_PLAIN = 16000;
    private static final int LEAST_LENGTH = 40;
    private static final int MOST_LENGTH = 4000;
    private static final int MOST_INT = 2147483647;
    private static final long MOST_SUM = 4294967295L;
    /** The greatest number that six digits of base 8 can tell. */
    private static final int MOST_SIX_DIGITS = 262143;

    /** A text of MOST_TEXT bytes cannot tell more bytes than this, even if its lines are wrong. */
    private static final int ROOM_FOR_TOLD_BYTES = 36000;
    /** Nor can what such a text told, spelled again, be longer than this. */
    private static final int ROOM_FOR_PROOF = 50000;
    /** The greatest archive of a tree has 13967 bytes; no code for it is wider than 14 bits. */
    private static final int ROOM_FOR_ARCHIVE = 14000;
    private static final int ROOM_FOR_SQUEEZED = 26000;
    private static final int ROOM_FOR_SPELLED = 36000;
    /** Of MOST_PLAIN bytes there are fewer strings than that, whatever the greatest width. */
    private static final int ROOM_FOR_TABLE = 16384;

    private static final int DIRECTORY = 0;
    private static final int FILE = 1;
    private static final int SYMLINK = 2;

    private static final int NONE = -1;
    private static final int LINE_END = 10;
    private static final int DOT = 46;
    private static final int SLASH = 47;
    private static final int DIGIT_ZERO = 48;

    private static final int LEAST_WIDTH = 9;
    private static final int MOST_WIDTH = 16;
    private static final int CLEAR_CODE = 256;
    private static final int FIRST_STRING = 257;
    private static final int MARK_ONE = 31;
    private static final int MARK_TWO = 157;
    private static final int MARK_WIDTH = 128;

    /** What a tree says of an entry that wants to come in. */
    private static final int FINE = 0;
    private static final int NOT_THERE = 1;
    private static final int NOT_SOUND = 2;
    private static final int TAKEN = 3;
    private static final int FULL = 4;

    /** What is told of a row that should come into the box, and of a box that is unpacked. */
    private static final int WRONG_LINE = 1;
    private static final int WRONG_COUNT = 2;
    private static final int CAME_BEFORE = 3;
    private static final int WRONG_SIZE = 4;
    private static final int WRONG_CHECKSUM = 5;
    private static final int PARTS_MISSING = 6;
    private static final int WRONG_TEXT = 7;
    private static final int WRONG_COMPRESSED = 8;
    private static final int WRONG_ARCHIVE = 9;

    private final Row tape;
    private final Tree mine;
    private Tree yours;
    /** Where unpack() builds, so that YOURS stays when something is wrong. */
    private Tree draftOfYours;
    /** The archive of MINE; without bytes when MINE has none. */
    private final Row archive;
    private boolean archiveIsFresh;
    private final Mail mail;
    private final Box box;
    private final Squeezer squeezer;
    private final Expander expander;
    private final Row plain;
    private final Row squeezed;
    private final Row text;
    /** What was read, written down once more: only the same row was right. */
    private final Row proof;

    public MailChain() {
        tape = new Row(MOST_TAPE);
        mine = new Tree();
        yours = new Tree();
        draftOfYours = new Tree();
        archive = new Row(ROOM_FOR_ARCHIVE);
        archiveIsFresh = false;
        mail = new Mail();
        box = new Box();
        squeezer = new Squeezer();
        expander = new Expander();
        plain = new Row(MOST_PLAIN);
        squeezed = new Row(ROOM_FOR_TOLD_BYTES);
        text = new Row(MOST_TEXT);
        proof = new Row(ROOM_FOR_PROOF);
    }

    public int type(long w, int n) throws IllegalArgumentException, UnsupportedOperationException {
        if (n < 1 || n > 8) {
            throw new IllegalArgumentException();
        }
        if (n > tape.room()) {
            throw new UnsupportedOperationException();
        }
        for (int i = 0; i < n; i++) {
            tape.put((int) (w >>> 8 * i));
        }
        return tape.size;
    }

    public int again(int n) throws IllegalArgumentException, UnsupportedOperationException {
        if (n < 0 || n > tape.size) {
            throw new IllegalArgumentException();
        }
        if (n > tape.room()) {
            throw new UnsupportedOperationException();
        }
        tape.putRange(tape, tape.size - n, tape.size);
        return tape.size;
    }

    public int add(int kind, int n, int mode, int owner, int group, int time)
            throws IllegalArgumentException, IllegalStateException, UnsupportedOperationException {
        int verdict = NOT_SOUND;
        if (n >= 1 && n <= MOST_PATH && n <= tape.size) {
            Entry draft = mine.draft();
            draft.path.copy(tape, 0, n);
            draft.kind = kind;
            draft.mode = mode;
            draft.owner = owner;
            draft.group = group;
            draft.time = time;
            verdict = mine.enter(tape, n, tape.size);
        }
        return afterEntering(verdict);
    }

    public int link(int i)
            throws IndexOutOfBoundsException, IllegalArgumentException, IllegalStateException,
                    UnsupportedOperationException {
        int verdict = NOT_SOUND;
        if (!mine.has(i)) {
            verdict = NOT_THERE;
        } else if (tape.size <= MOST_PATH) {
            mine.draft().path.copy(tape, 0, tape.size);
            verdict = mine.enterLink(i);
        }
        return afterEntering(verdict);
    }

    /** The tape has been read, so it is emptied before anything is thrown. */
    private int afterEntering(int verdict) {
        tape.wipe();
        if (verdict == NOT_THERE) {
            throw new IndexOutOfBoundsException();
        }
        if (verdict == NOT_SOUND) {
            throw new IllegalArgumentException();
        }
        if (verdict == TAKEN) {
            throw new IllegalStateException();
        }
        if (verdict == FULL) {
            throw new UnsupportedOperationException();
        }
        archiveIsFresh = false;
        return mine.count;
    }

    public int clear() {
        int had = mine.count;
        mine.wipe();
        archiveIsFresh = false;
        return had;
    }

    public int pack(int width, int length) throws IllegalArgumentException {
        if (!isWidth(width) || length < LEAST_LENGTH || length > MOST_LENGTH) {
            throw new IllegalArgumentException();
        }
        refreshArchive();
        if (archive.size == 0) {
            return -1;
        }
        squeezer.squeeze(archive, width, squeezed);
        Spelling.write(squeezed, text);
        if (text.size > MOST_PARTS * length) {
            return -2;
        }
        mail.keep(squeezed, text, length);
        return mail.count;
    }

    private static boolean isWidth(int width) {
        return width >= LEAST_WIDTH && width <= MOST_WIDTH;
    }

    private void refreshArchive() {
        if (!archiveIsFresh) {
            Archive.write(mine, archive);
            archiveIsFresh = true;
        }
    }

    public int part(int k, int i) throws IndexOutOfBoundsException {
        if (!mail.has(k)) {
            throw new IndexOutOfBoundsException();
        }
        mail.write(k, proof);
        if (i == -1) {
            return proof.size;
        }
        if (!proof.has(i)) {
            throw new IndexOutOfBoundsException();
        }
        return proof.at(i);
    }

    public int stage(int what, int i) throws IllegalArgumentException {
        switch (what) {
            case 0:
                refreshArchive();
                return archive.at(i);
            case 1:
                return mail.squeezed.at(i);
            case 2:
                return mail.text.at(i);
            default:
                throw new IllegalArgumentException();
        }
    }

    public int checksum() {
        int sum = tape.sum(0, tape.size);
        tape.wipe();
        return sum;
    }

    public int receive() {
        int told = box.take(tape);
        tape.wipe();
        return told;
    }

    public int pass(int k, int at, int x)
            throws IndexOutOfBoundsException, IllegalArgumentException {
        if (!mail.has(k)) {
            throw new IndexOutOfBoundsException();
        }
        mail.write(k, proof);
        if (!proof.has(at)) {
            throw new IndexOutOfBoundsException();
        }
        if (x < 0 || x > 255) {
            throw new IllegalArgumentException();
        }
        proof.turn(at, x);
        return box.take(proof);
    }

    public void forge(int what, int width) throws IllegalArgumentException {
        boolean sound = what == 1 || what == 2 || what == 0 && isWidth(width);
        if (sound) {
            box.wipe();
            box.keep(1, 1, textOfTape(what, width), 0);
        }
        tape.wipe();
        if (!sound) {
            throw new IllegalArgumentException();
        }
    }

    private Row textOfTape(int what, int width) {
        if (what == 2) {
            return tape;
        }
        if (what == 1) {
            Spelling.write(tape, text);
            return text;
        }
        squeezer.squeeze(tape, width, squeezed);
        Spelling.write(squeezed, text);
        return text;
    }

    public int empty() {
        int had = box.count;
        box.wipe();
        return had;
    }

    /** Each step back is proved by the step forth, so that readers need not judge all they read. */
    public int unpack() {
        if (!box.isWhole()) {
            return PARTS_MISSING;
        }
        if (!box.join(text)) {
            return WRONG_TEXT;
        }
        Spelling.read(text, squeezed);
        Spelling.write(squeezed, proof);
        if (!proof.same(text)) {
            return WRONG_TEXT;
        }
        if (squeezed.size > MOST_COMPRESSED || !expander.expand(squeezed, plain)) {
            return WRONG_COMPRESSED;
        }
        squeezer.squeeze(plain, squeezed.at(2) - MARK_WIDTH, proof);
        if (!proof.same(squeezed)) {
            return WRONG_COMPRESSED;
        }
        if (!Archive.read(plain, draftOfYours)) {
            return WRONG_ARCHIVE;
        }
        Archive.write(draftOfYours, proof);
        if (!proof.same(plain)) {
            return WRONG_ARCHIVE;
        }
        swapYours();
        box.wipe();
        return 0;
    }

    private void swapYours() {
        Tree old = yours;
        yours = draftOfYours;
        draftOfYours = old;
    }

    public int about(int tree, int what, int i)
            throws IllegalArgumentException, IndexOutOfBoundsException {
        if (tree != 0 && tree != 1) {
            throw new IllegalArgumentException();
        }
        Tree asked = tree == 0 ? mine : yours;
        if (what == 0) {
            return asked.count;
        }
        if (what < 0 || what > 9 || !asked.has(i)) {
            throw new IndexOutOfBoundsException();
        }
        return asked.tell(what, i);
    }

    public int byteOf(int tree, int i, int k)
            throws IllegalArgumentException, IndexOutOfBoundsException {
        if (tree != 0 && tree != 1) {
            throw new IllegalArgumentException();
        }
        Tree asked = tree == 0 ? mine : yours;
        if (!asked.has(i) || !asked.hasByte(i, k)) {
            throw new IndexOutOfBoundsException();
        }
        return asked.byteAt(i, k);
    }

    /** Bytes one behind the other, at most as many as it was made for. */
    private static final class Row {
        /** What four bits leave behind when the checksum's polynomial divides them. */
        private static final int[] REMAINDERS = {
            0x00000000, 0x04C11DB7, 0x09823B6E, 0x0D4326D9,
            0x130476DC, 0x17C56B6B, 0x1A864DB2, 0x1E475005,
            0x2608EDB8, 0x22C9F00F, 0x2F8AD6D6, 0x2B4BCB61,
            0x350C9B64, 0x31CD86D3, 0x3C8EA00A, 0x384FBDBD,
        };

        private final byte[] bytes;
        private int size;

        Row(int most) {
            bytes = new byte[most];
            size = 0;
        }

        void wipe() {
            size = 0;
        }

        int room() {
            return bytes.length - size;
        }

        boolean has(int i) {
            return i >= 0 && i < size;
        }

        /** The byte, or -1 where there is none. */
        int at(int i) {
            return i >= 0 && i < size ? bytes[i] & 255 : NONE;
        }

        void put(int value) {
            if (size < bytes.length) {
                bytes[size] = (byte) value;
                size++;
            }
        }

        void turn(int i, int bits) {
            if (has(i)) {
                bytes[i] ^= (byte) bits;
            }
        }

        void putRange(Row from, int start, int end) {
            int length = end - start;
            if (start >= 0 && length > 0 && end <= from.size && length <= room()) {
                System.arraycopy(from.bytes, start, bytes, size, length);
                size += length;
            }
        }

        void copy(Row from, int start, int end) {
            wipe();
            putRange(from, start, end);
        }

        void putText(String letters) {
            for (int i = 0; i < letters.length(); i++) {
                put(letters.charAt(i));
            }
        }

        void putOctal(int value, int digits) {
            for (int shift = 3 * (digits - 1); shift >= 0; shift -= 3) {
                put(DIGIT_ZERO + (value >>> shift & 7));
            }
        }

        void putDecimal(long value) {
            long unit = 1;
            for (int digits = 1; digits < 10 && value / unit >= 10; digits++) {
                unit *= 10;
            }
            for (; unit > 0; unit /= 10) {
                put(DIGIT_ZERO + (int) (value / unit % 10));
            }
        }

        boolean hasText(String letters, int start) {
            for (int i = 0; i < letters.length(); i++) {
                if (at(start + i) != letters.charAt(i)) {
                    return false;
                }
            }
            return true;
        }

        boolean same(Row other) {
            return size == other.size && order(other, other.size) == 0;
        }

        /** Below 0, 0 or above 0, as this row is before, the same as, or behind a beginning. */
        int order(Row other, int otherSize) {
            for (int i = 0; i < size && i < otherSize && i < other.size; i++) {
                int difference = (bytes[i] & 255) - (other.bytes[i] & 255);
                if (difference != 0) {
                    return difference;
                }
            }
            return size - otherSize;
        }

        /** The checksum of what stands from start to end. */
        int sum(int start, int end) {
            int rest = 0;
            for (int i = start; i < end; i++) {
                rest = divide(rest, at(i));
            }
            for (int length = end - start; length > 0; length >>>= 8) {
                rest = divide(rest, length);
            }
            return ~rest;
        }

        private static int divide(int rest, int value) {
            int mixed = rest ^ value << 24;
            mixed = mixed << 4 ^ REMAINDERS[mixed >>> 28];
            return mixed << 4 ^ REMAINDERS[mixed >>> 28];
        }
    }

    /** A directory, file or symlink of a tree. */
    private static final class Entry {
        private final Row path;
        private int kind;
        private int mode;
        private int owner;
        private int group;
        private int time;
        /** Where its content or target stands in the tree's bodies, and how long it is. */
        private int start;
        private int size;
        /** Links of one another have this in common, and no others. */
        private int family;

        Entry() {
            path = new Row(MOST_PATH);
        }

        void becomeLinkOf(Entry file) {
            kind = file.kind;
            mode = file.mode;
            owner = file.owner;
            group = file.group;
            time = file.time;
            start = file.start;
            size = file.size;
            family = file.family;
        }

        boolean hasSoundFields() {
            return kind >= DIRECTORY && kind <= SYMLINK && mode >= 0 && mode <= MOST_MODE
                    && owner >= 0 && group >= 0 && time >= 0;
        }

        boolean hasSoundPath() {
            int nameStart = 0;
            for (int i = 0; i < path.size; i++) {
                int value = path.at(i);
                if (value == 0 || value == SLASH && !isName(nameStart, i)) {
                    return false;
                }
                if (value == SLASH) {
                    nameStart = i + 1;
                }
            }
            return isName(nameStart, path.size);
        }

        private boolean isName(int nameStart, int nameEnd) {
            int length = nameEnd - nameStart;
            if (length == 1) {
                return path.at(nameStart) != DOT;
            }
            if (length == 2) {
                return path.at(nameStart) != DOT || path.at(nameStart + 1) != DOT;
            }
            return length > 2;
        }

        /** How many bytes of the path its directory's path has, or -1 if it is in none. */
        int parentSize() {
            int last = NONE;
            for (int i = 0; i < path.size; i++) {
                if (path.at(i) == SLASH) {
                    last = i;
                }
            }
            return last;
        }
    }

    /** Entries in order. */
    private static final class Tree {
        /** One more than a tree may have: the one behind the last is the draft of the next. */
        private final Entry[] entries;
        private final Row bodies;
        private int count;
        private int contents;

        Tree() {
            entries = new Entry[MOST_ENTRIES + 1];
            for (int i = 0; i < entries.length; i++) {
                entries[i] = new Entry();
            }
            bodies = new Row(MOST_CONTENTS + MOST_ENTRIES * MOST_TARGET);
            count = 0;
            contents = 0;
        }

        void wipe() {
            bodies.wipe();
            count = 0;
            contents = 0;
        }

        boolean has(int i) {
            return i >= 0 && i < count;
        }

        Entry draft() {
            return entries[count];
        }

        /** The draft, with the body that stands in a row, becomes an entry: what forbids it. */
        int enter(Row source, int bodyStart, int bodyEnd) {
            Entry draft = draft();
            if (!draft.hasSoundFields() || !isBody(draft.kind, source, bodyStart, bodyEnd)) {
                return NOT_SOUND;
            }
            draft.start = bodies.size;
            draft.size = bodyEnd - bodyStart;
            draft.family = count;
            int verdict = insertDraft();
            if (verdict == FINE) {
                bodies.putRange(source, bodyStart, bodyEnd);
            }
            return verdict;
        }

        /** The draft, which has a path, becomes a link of an entry: what forbids it. */
        int enterLink(int i) {
            if (!has(i)) {
                return NOT_THERE;
            }
            if (entries[i].kind != FILE) {
                return NOT_SOUND;
            }
            draft().becomeLinkOf(entries[i]);
            return insertDraft();
        }

        private static boolean isBody(int kind, Row source, int start, int end) {
            if (kind == DIRECTORY) {
                return start == end;
            }
            return kind == FILE || isTarget(source, start, end);
        }

        private static boolean isTarget(Row source, int start, int end) {
            if (end - start < 1 || end - start > MOST_TARGET) {
                return false;
            }
            for (int i = start; i < end; i++) {
                if (source.at(i) == 0) {
                    return false;
                }
            }
            return true;
        }

        private int insertDraft() {
            Entry draft = draft();
            if (!draft.hasSoundPath() || !hasParentOf(draft)) {
                return NOT_SOUND;
            }
            int place = placeOf(draft.path, draft.path.size);
            if (has(place) && entries[place].path.same(draft.path)) {
                return TAKEN;
            }
            int more = draft.kind == FILE ? draft.size : 0;
            if (count >= MOST_ENTRIES || contents + more > MOST_CONTENTS) {
                return FULL;
            }
            for (int i = count; i > place; i--) {
                entries[i] = entries[i - 1];
            }
            entries[place] = draft;
            count++;
            contents += more;
            return FINE;
        }

        private boolean hasParentOf(Entry entry) {
            int size = entry.parentSize();
            if (size == NONE) {
                return true;
            }
            int place = placeOf(entry.path, size);
            return has(place) && entries[place].kind == DIRECTORY
                    && entries[place].path.order(entry.path, size) == 0;
        }

        /** How many entries are before the one whose path a row begins with. */
        private int placeOf(Row path, int size) {
            int place = 0;
            while (place < count && entries[place].path.order(path, size) < 0) {
                place++;
            }
            return place;
        }

        int firstLinkOf(int i) {
            int first = 0;
            while (first < i && entries[first].family != entries[i].family) {
                first++;
            }
            return first;
        }

        int linksOf(int i) {
            int links = 0;
            for (int other = 0; other < count; other++) {
                if (entries[other].family == entries[i].family) {
                    links++;
                }
            }
            return links;
        }

        boolean hasArchive() {
            for (int i = 0; i < count; i++) {
                Entry entry = entries[i];
                if (entry.owner > MOST_SIX_DIGITS || entry.group > MOST_SIX_DIGITS) {
                    return false;
                }
            }
            return true;
        }

        int tell(int what, int i) {
            Entry entry = entries[i];
            switch (what) {
                case 1:
                    return entry.kind;
                case 2:
                    return entry.mode;
                case 3:
                    return entry.owner;
                case 4:
                    return entry.group;
                case 5:
                    return entry.time;
                case 6:
                    return entry.path.size;
                case 7:
                    return entry.size;
                case 8:
                    return firstLinkOf(i);
                default:
                    return linksOf(i);
            }
        }

        boolean hasByte(int i, int k) {
            return k >= 0 && k < entries[i].path.size + entries[i].size;
        }

        int byteAt(int i, int k) {
            Entry entry = entries[i];
            int behind = k - entry.path.size;
            return behind < 0 ? entry.path.at(k) : bodies.at(entry.start + behind);
        }
    }

    /** Trees as archives. */
    private static final class Archive {
        private static final String BEGINNING = "070707000000";
        private static final String NO_DEVICE = "000000";
        /** All of the trailer but the byte 0 at its end. */
        private static final String TRAILER =
                "0707070000000000000000000000000000000000010000000000000000000001300000000000TRAILER!!!";
        private static final int NUMBER_AT = 12;
        private static final int KIND_AT = 18;
        private static final int OWNER_AT = 24;
        private static final int GROUP_AT = 30;
        private static final int TIME_AT = 48;
        private static final int PATH_SIZE_AT = 59;
        private static final int BODY_SIZE_AT = 65;
        private static final int PATH_AT = 76;
        private static final int SHORT = 6;
        private static final int LONG = 11;

        /** Writes no byte at all when an owner or group is too great for an archive. */
        static void write(Tree tree, Row out) {
            out.wipe();
            if (!tree.hasArchive()) {
                return;
            }
            for (int i = 0; i < tree.count; i++) {
                Entry entry = tree.entries[i];
                writeHeader(entry, tree.firstLinkOf(i) + 1, tree.linksOf(i), out);
                out.putRange(entry.path, 0, entry.path.size);
                out.put(0);
                out.putRange(tree.bodies, entry.start, entry.start + entry.size);
            }
            out.putText(TRAILER);
            out.put(0);
        }

        private static void writeHeader(Entry entry, int number, int links, Row out) {
            out.putText(BEGINNING);
            out.putOctal(number, SHORT);
            out.putOctal(kindDigits(entry.kind) << 12 | entry.mode, SHORT);
            out.putOctal(entry.owner, SHORT);
            out.putOctal(entry.group, SHORT);
            out.putOctal(links, SHORT);
            out.putText(NO_DEVICE);
            out.putOctal(entry.time, LONG);
            out.putOctal(entry.path.size + 1, SHORT);
            out.putOctal(entry.size, LONG);
        }

        private static int kindDigits(int kind) {
            if (kind == DIRECTORY) {
                return 4;
            }
            return kind == FILE ? 8 : 10;
        }

        private static int kindOf(int digits) {
            for (int kind = DIRECTORY; kind <= SYMLINK; kind++) {
                if (kindDigits(kind) == digits) {
                    return kind;
                }
            }
            return NONE;
        }

        /**
         * Reads the one tree that a row can be the archive of, if it is one; whether it is one
         * is only known when that tree's archive has been written.
         */
        static boolean read(Row from, Tree tree) {
            tree.wipe();
            int at = 0;
            for (int i = 0; i <= MOST_ENTRIES && at != NONE; i++) {
                if (from.hasText(TRAILER, at)) {
                    return true;
                }
                at = readEntry(from, at, tree);
            }
            return false;
        }

        /** Where the next entry begins, or -1 when there is no entry at that place. */
        private static int readEntry(Row from, int at, Tree tree) {
            int pathStart = at + PATH_AT;
            int pathSize = octal(from, at + PATH_SIZE_AT, SHORT) - 1;
            int bodyStart = pathStart + pathSize + 1;
            int bodySize = octal(from, at + BODY_SIZE_AT, LONG);
            if (pathSize < 1 || pathSize > MOST_PATH
                    || bodySize < 0 || bodySize > from.size - bodyStart) {
                return NONE;
            }
            int bodyEnd = bodyStart + bodySize;
            Entry draft = tree.draft();
            draft.path.copy(from, pathStart, pathStart + pathSize);
            readFields(from, at, draft);
            int number = octal(from, at + NUMBER_AT, SHORT);
            int verdict = number == tree.count + 1
                    ? tree.enter(from, bodyStart, bodyEnd) : tree.enterLink(number - 1);
            return verdict == FINE ? bodyEnd : NONE;
        }

        private static void readFields(Row from, int at, Entry draft) {
            int kindAndMode = octal(from, at + KIND_AT, SHORT);
            draft.kind = kindOf(kindAndMode >> 12);
            draft.mode = kindAndMode & MOST_MODE;
            draft.owner = octal(from, at + OWNER_AT, SHORT);
            draft.group = octal(from, at + GROUP_AT, SHORT);
            draft.time = octal(from, at + TIME_AT, LONG);
        }

        /** A number in digits of base 8, or -1 if it is none, or too great. */
        private static int octal(Row from, int at, int digits) {
            long value = 0;
            for (int i = 0; i < digits; i++) {
                int digit = from.at(at + i) - DIGIT_ZERO;
                if (digit < 0 || digit > 7) {
                    return NONE;
                }
                value = 8 * value + digit;
            }
            return value <= MOST_INT ? (int) value : NONE;
        }
    }

    /** Makes rows of bytes into codes. */
    private static final class Squeezer {
        /** The strings that go on from a string by one byte are a chain from its first child. */
        private final int[] firstChild;
        private final int[] nextChild;
        private final int[] lastByte;
        private int greatest;
        private int next;
        private int width;
        private int codesOfWidth;
        private int bits;
        private int bitCount;

        Squeezer() {
            firstChild = new int[ROOM_FOR_TABLE];
            nextChild = new int[ROOM_FOR_TABLE];
            lastByte = new int[ROOM_FOR_TABLE];
        }

        void squeeze(Row from, int greatestWidth, Row out) {
            out.wipe();
            out.put(MARK_ONE);
            out.put(MARK_TWO);
            out.put(MARK_WIDTH + greatestWidth);
            begin(greatestWidth);
            int string = from.at(0);
            for (int i = 1; i < from.size; i++) {
                int value = from.at(i);
                int longer = childOf(string, value);
                if (longer == NONE) {
                    putCode(string, out);
                    learn(string, value, out);
                    longer = value;
                }
                string = longer;
            }
            if (string != NONE) {
                putCode(string, out);
            }
            if (bitCount > 0) {
                out.put(bits);
            }
        }

        private void begin(int greatestWidth) {
            greatest = greatestWidth;
            width = LEAST_WIDTH;
            codesOfWidth = 0;
            bits = 0;
            bitCount = 0;
            forget();
        }

        private void forget() {
            next = FIRST_STRING;
            Arrays.fill(firstChild, 0, FIRST_STRING, NONE);
        }

        private int childOf(int string, int value) {
            int child = firstChild[string];
            for (int i = 0; i < 256 && child != NONE && lastByte[child] != value; i++) {
                child = nextChild[child];
            }
            return child;
        }

        private void learn(int string, int value, Row out) {
            if (next >= 1 << greatest) {
                putCode(CLEAR_CODE, out);
                changeWidth(LEAST_WIDTH, out);
                forget();
            } else if (next < ROOM_FOR_TABLE) {
                firstChild[next] = NONE;
                lastByte[next] = value;
                nextChild[next] = firstChild[string];
                firstChild[string] = next;
                next++;
            }
        }

        private void putCode(int code, Row out) {
            if (next > 1 << width && width < greatest) {
                changeWidth(width + 1, out);
            }
            putBits(code, out);
        }

        private void changeWidth(int newWidth, Row out) {
            int missing = -codesOfWidth & 7;
            for (int i = 0; i < missing; i++) {
                putBits(0, out);
            }
            codesOfWidth = 0;
            width = newWidth;
        }

        private void putBits(int code, Row out) {
            codesOfWidth++;
            bits |= code << bitCount;
            for (bitCount += width; bitCount >= 8; bitCount -= 8) {
                out.put(bits);
                bits >>>= 8;
            }
        }
    }

    /** Makes codes into the bytes that they stand for. */
    private static final class Expander {
        /** A string of the table is known by the place where it stood first in what was told. */
        private final int[] starts;
        private final int[] sizes;
        private int greatest;
        private int next;
        private int width;
        private int codesOfWidth;
        private int groupStart;

        Expander() {
            starts = new int[ROOM_FOR_TABLE];
            sizes = new int[ROOM_FOR_TABLE];
        }

        /** Tells the bytes that a row can be the codes of, if it is codes of any. */
        boolean expand(Row from, Row out) {
            out.wipe();
            greatest = from.at(2) - MARK_WIDTH;
            if (from.at(0) != MARK_ONE || from.at(1) != MARK_TWO || !isWidth(greatest)) {
                return false;
            }
            begin();
            boolean first = true;
            for (int i = 0; i < MOST_COMPRESSED; i++) {
                boolean full = !first && next >= 1 << greatest;
                if (!first && !full) {
                    next++;
                }
                int code = readCode(from);
                if (code == NONE) {
                    return true;
                }
                if (full ? code != CLEAR_CODE : !tell(code, out)) {
                    return false;
                }
                if (full) {
                    restart();
                }
                first = full;
            }
            return false;
        }

        private void begin() {
            next = FIRST_STRING;
            width = LEAST_WIDTH;
            codesOfWidth = 0;
            groupStart = 3;
        }

        private void restart() {
            changeWidth(LEAST_WIDTH);
            next = FIRST_STRING;
        }

        private void changeWidth(int newWidth) {
            groupStart += (codesOfWidth + 7) / 8 * width;
            codesOfWidth = 0;
            width = newWidth;
        }

        /** The next code, or -1 when what is left is too short for one. */
        private int readCode(Row from) {
            if (next > 1 << width && width < greatest) {
                changeWidth(width + 1);
            }
            int bit = 8 * groupStart + codesOfWidth * width;
            if (bit + width > 8 * from.size) {
                return NONE;
            }
            codesOfWidth++;
            int at = bit >> 3;
            int three = from.at(at) | from.at(at + 1) << 8 | Math.max(from.at(at + 2), 0) << 16;
            return three >>> (bit & 7) & (1 << width) - 1;
        }

        private boolean tell(int code, Row out) {
            if (code == CLEAR_CODE || code >= FIRST_STRING && code >= next) {
                return false;
            }
            int start = out.size;
            int size = code < CLEAR_CODE ? 1 : sizes[code];
            if (size > out.room() || next >= ROOM_FOR_TABLE) {
                return false;
            }
            for (int i = 0; i < size; i++) {
                out.put(code < CLEAR_CODE ? code : out.at(starts[code] + i));
            }
            starts[next] = start;
            sizes[next] = size + 1;
            return true;
        }
    }

    /** Bytes as lines of letters. */
    private static final class Spelling {
        private static final String BEGIN = "begin 644 mail\n";
        private static final String END = "end\n";
        private static final int LINE = 45;

        static void write(Row from, Row out) {
            out.wipe();
            out.putText(BEGIN);
            for (int at = 0; at < from.size; at += LINE) {
                writeLine(from, at, Math.min(LINE, from.size - at), out);
            }
            writeLine(from, from.size, 0, out);
            out.putText(END);
        }

        private static void writeLine(Row from, int at, int count, Row out) {
            out.put(letter(count));
            for (int i = at; i < at + count; i += 3) {
                int three = Math.max(from.at(i), 0) << 16 | Math.max(from.at(i + 1), 0) << 8
                        | Math.max(from.at(i + 2), 0);
                for (int shift = 18; shift >= 0; shift -= 6) {
                    out.put(letter(three >> shift & 63));
                }
            }
            out.put(LINE_END);
        }

        private static int letter(int six) {
            return six == 0 ? 96 : 32 + six;
        }

        private static int sixOf(int letter) {
            return letter - 32 & 63;
        }

        /**
         * Reads the only bytes that a text can be the spelling of, if it is one; whether it is
         * one is only known when these have been spelled.
         */
        static void read(Row text, Row out) {
            out.wipe();
            for (int at = BEGIN.length(); at < text.size; at += 2) {
                int count = sixOf(text.at(at));
                if (count == 0) {
                    return;
                }
                readLine(text, at + 1, count, out);
                at += (count + 2) / 3 * 4;
            }
        }

        private static void readLine(Row text, int at, int count, Row out) {
            for (int i = 0; i < count; i++) {
                int left = at + i / 3 * 4 + i % 3;
                int twelve = sixOf(text.at(left)) << 6 | sixOf(text.at(left + 1));
                out.put(twelve >> 4 - 2 * (i % 3));
            }
        }
    }

    /** What the latest pack() made. */
    private static final class Mail {
        final Row squeezed;
        final Row text;
        int count;
        private int length;
        private final int[] sums;

        Mail() {
            squeezed = new Row(ROOM_FOR_SQUEEZED);
            text = new Row(ROOM_FOR_SPELLED);
            count = 0;
            length = LEAST_LENGTH;
            sums = new int[MOST_PARTS];
        }

        /** The text gives at most MOST_PARTS pieces. */
        void keep(Row newSqueezed, Row newText, int newLength) {
            squeezed.copy(newSqueezed, 0, newSqueezed.size);
            text.copy(newText, 0, newText.size);
            length = newLength;
            count = 0;
            for (int at = 0; at < text.size && count < MOST_PARTS; at += newLength) {
                count++;
                sums[count - 1] = text.sum(at, pieceEnd(count));
            }
        }

        boolean has(int k) {
            return k >= 1 && k <= count;
        }

        void write(int k, Row out) {
            out.wipe();
            if (!has(k)) {
                return;
            }
            int start = (k - 1) * length;
            int end = pieceEnd(k);
            out.putText(PartLine.PART);
            out.putDecimal(k);
            out.putText(PartLine.OF);
            out.putDecimal(count);
            out.putText(PartLine.SIZE);
            out.putDecimal(end - start);
            out.putText(PartLine.CKSUM);
            out.putDecimal(sums[k - 1] & MOST_SUM);
            out.put(LINE_END);
            out.putRange(text, start, end);
        }

        private int pieceEnd(int k) {
            return Math.min(k * length, text.size);
        }
    }

    /** The line that a part begins with, as it was read last. */
    private static final class PartLine {
        static final String PART = "PART ";
        static final String OF = " OF ";
        static final String SIZE = " SIZE ";
        static final String CKSUM = " CKSUM ";
        private static final int MOST_DIGITS = 10;

        int k;
        int n;
        int size;
        long sum;
        /** How many bytes have been read. */
        int end;

        boolean read(Row row) {
            end = 0;
            k = (int) number(row, PART, MOST_PARTS);
            n = (int) number(row, OF, MOST_PARTS);
            size = (int) number(row, SIZE, MOST_TEXT);
            sum = number(row, CKSUM, MOST_SUM);
            boolean ends = row.at(end) == LINE_END;
            end++;
            return ends && k >= 1 && k <= n && size != NONE && sum != NONE;
        }

        /** A number behind a word, at most so great, or -1 if there is none. */
        private long number(Row row, String word, long most) {
            if (!row.hasText(word, end)) {
                return NONE;
            }
            end += word.length();
            int start = end;
            long value = 0;
            while (end < start + MOST_DIGITS && isDigit(row.at(end))) {
                value = 10 * value + row.at(end) - DIGIT_ZERO;
                end++;
            }
            boolean zeroBefore = end > start + 1 && row.at(start) == DIGIT_ZERO;
            return end == start || zeroBefore || value > most ? NONE : value;
        }

        private static boolean isDigit(int value) {
            return value >= DIGIT_ZERO && value <= DIGIT_ZERO + 9;
        }
    }

    /** Parts that came. */
    private static final class Box {
        /** One behind the other, as they came; a text too long for it is wrong in any case. */
        private final Row pieces;
        private final int[] starts;
        private final int[] sizes;
        private final PartLine line;
        private int n;
        private int bytes;
        int count;

        Box() {
            pieces = new Row(MOST_TEXT);
            starts = new int[MOST_PARTS + 1];
            sizes = new int[MOST_PARTS + 1];
            Arrays.fill(sizes, NONE);
            line = new PartLine();
            n = 0;
            bytes = 0;
            count = 0;
        }

        void wipe() {
            pieces.wipe();
            Arrays.fill(sizes, NONE);
            n = 0;
            bytes = 0;
            count = 0;
        }

        /** 0 when the row came in as a part, or what is told. */
        int take(Row row) {
            if (!line.read(row)) {
                return WRONG_LINE;
            }
            if (count > 0 && line.n != n) {
                return WRONG_COUNT;
            }
            if (sizes[line.k] != NONE) {
                return CAME_BEFORE;
            }
            if (row.size - line.end != line.size) {
                return WRONG_SIZE;
            }
            if ((row.sum(line.end, row.size) & MOST_SUM) != line.sum) {
                return WRONG_CHECKSUM;
            }
            keep(line.k, line.n, row, line.end);
            return 0;
        }

        /** Part k of n is what stands in a row from start on. */
        void keep(int k, int newN, Row row, int start) {
            n = newN;
            starts[k] = pieces.size;
            sizes[k] = row.size - start;
            pieces.putRange(row, start, row.size);
            bytes += sizes[k];
            count++;
        }

        boolean isWhole() {
            return count > 0 && count == n;
        }

        /** False when the text would be too long. */
        boolean join(Row text) {
            text.wipe();
            for (int k = 1; k <= n; k++) {
                text.putRange(pieces, starts[k], starts[k] + sizes[k]);
            }
            return bytes <= MOST_TEXT;
        }
    }
}
