/**
 * Rows of what threads did, packed into bytes in blocks, and read again from anywhere.
 * All numbers are held in Ints, which tests every index: no call lets the machine throw.
 */
public final class TracePacks {
    public static final int NONE = -1;

    private static final int BRANCH = 0;
    private static final int JUMP = 1;
    private static final int LOAD = 2;
    private static final int STORE = 3;
    private static final int TIME = 4;

    private static final int THREADS = 4;
    private static final int MOST_BYTES = 16384;
    private static final int MOST_ROWS = 100;
    private static final int MOST_KEPT = 2000;
    private static final int LAST_VALUES = 8;
    private static final int LATEST_TIME = 2147483647;

    private static final int ALL_KINDS = 31;
    private static final int ALL_THREADS = 15;
    private static final int THREADS_FACTOR = 32;
    private static final int THREADS_SHIFT = 5;

    private static final int MOST_BYTE = 255;
    private static final int MARK = 126;
    private static final int SHIELD = 125;
    private static final int BEHIND_SHIELD_MARK = 94;
    private static final int BEHIND_SHIELD_SHIELD = 93;

    private static final int KIND_SHIFT = 5;
    private static final int FIVE_BITS = 31;
    private static final int DIFFERENCE_TOLD = 1;
    private static final int STORE_DIFFERENCE_TOLD = 16;
    private static final int VALUE_TOLD = 8;
    private static final int NO_OUTCOMES = 1;
    private static final int FOUR_OUTCOMES = 16;
    private static final int HIGHEST_OUTCOME = 8;

    private static final int NUMBER_BYTES = 5;
    private static final int LAST_NUMBER_BYTE = 15;
    private static final int MORE = 128;
    private static final int WORD_BYTES = 4;

    private static final int TIME_PLACE = 1;
    private static final int ROWS_PLACE = 5;
    private static final int HEAD_BYTES = 6;
    private static final int SUM_BYTES = 2;
    private static final int LEAST_INSIDE = HEAD_BYTES + 1 + SUM_BYTES;
    // The longest row is a STORE: its byte, a difference and a value.
    private static final int LONGEST_ROW = 1 + NUMBER_BYTES + WORD_BYTES;
    private static final int MOST_INSIDE = HEAD_BYTES + MOST_ROWS * LONGEST_ROW + SUM_BYTES;

    private final Ints pack;
    private final Ints times;
    private final Block open;
    private final Packer packer;
    private final Reader reader;
    private int current;
    private int chosen;
    private int rowsSoFar;
    private int blocksSoFar;

    public TracePacks() {
        pack = new Ints(MOST_BYTES);
        times = new Ints(THREADS);
        for (int t = 0; t < THREADS; t++) {
            times.add(0);
        }
        open = new Block();
        packer = new Packer();
        reader = new Reader();
        chosen = ALL_KINDS + THREADS_FACTOR * ALL_THREADS;
    }

    public int thread(int t) throws IndexOutOfBoundsException {
        if (t < 0 || t >= THREADS) {
            throw new IndexOutOfBoundsException("no such thread");
        }
        int before = current;
        current = t;
        return before;
    }

    public int row(int kind, int a, int b) throws IllegalArgumentException, IllegalStateException {
        if (!isRow(kind, a, b)) {
            throw new IllegalArgumentException("no such row");
        }
        if (open.isClosedBy(current) && !closeOpen()) {
            throw new IllegalStateException("the pack would be too long");
        }
        if (open.size() == 0) {
            open.begin(current, times.at(current));
        }
        open.add(kind, a, b);
        if (kind == TIME) {
            times.set(current, a);
        }
        rowsSoFar++;
        return open.size();
    }

    public int mark() throws IllegalStateException {
        if (open.size() > 0 && !closeOpen()) {
            throw new IllegalStateException("the pack would be too long");
        }
        return pack.size();
    }

    public int byteAt(int i) throws IndexOutOfBoundsException {
        if (!pack.has(i)) {
            throw new IndexOutOfBoundsException("no such byte");
        }
        return pack.at(i);
    }

    public int flip(int i, int mask) throws IndexOutOfBoundsException, IllegalArgumentException {
        if (!pack.has(i)) {
            throw new IndexOutOfBoundsException("no such byte");
        }
        if (mask < 0 || mask > MOST_BYTE) {
            throw new IllegalArgumentException("the mask is no byte");
        }
        pack.set(i, pack.at(i) ^ mask);
        return pack.at(i);
    }

    public int put(int v) throws IllegalArgumentException, IllegalStateException {
        if (v < 0 || v > MOST_BYTE) {
            throw new IllegalArgumentException("no byte");
        }
        if (!pack.add(v)) {
            throw new IllegalStateException("the pack is full");
        }
        return pack.size();
    }

    public int cut(int n) throws IllegalArgumentException {
        if (n < 0 || n > pack.size()) {
            throw new IllegalArgumentException("the pack has not so many bytes");
        }
        int gone = pack.size() - n;
        pack.shorten(n);
        return gone;
    }

    public int choose(int kinds, int threads) throws IllegalArgumentException {
        if (kinds < 0 || kinds > ALL_KINDS || threads < 0 || threads > ALL_THREADS) {
            throw new IllegalArgumentException("no such kinds or threads");
        }
        int before = chosen;
        chosen = kinds + THREADS_FACTOR * threads;
        return before;
    }

    public int read(int from) throws IndexOutOfBoundsException {
        if (from < 0 || from > pack.size()) {
            throw new IndexOutOfBoundsException("no such byte to read from");
        }
        reader.readFrom(pack, from, chosen);
        return reader.rows().size();
    }

    public int kept(int k, int what) throws IndexOutOfBoundsException {
        if (!reader.rows().has(k, what)) {
            throw new IndexOutOfBoundsException("no such row, or nothing of it");
        }
        return reader.rows().at(k, what);
    }

    public int merged(int k) throws IndexOutOfBoundsException {
        if (k < 0 || k >= reader.rows().size()) {
            throw new IndexOutOfBoundsException("no such row");
        }
        return reader.rows().byTime(k);
    }

    public int count(int what) {
        switch (what) {
            case 0: return pack.size();
            case 1: return open.size();
            case 2: return rowsSoFar;
            case 3: return blocksSoFar;
            case 4: return reader.passedOver();
            case 5: return reader.blocks();
            case 6: return reader.broken();
            case 7: return reader.rows().size();
            case 8: return reader.notKept();
            default: return NONE;
        }
    }

    private boolean isRow(int kind, int a, int b) {
        if (kind < BRANCH || kind > TIME) {
            return false;
        }
        if (kind == BRANCH && a != 0 && a != 1) {
            return false;
        }
        if (kind == TIME && a < times.at(current)) {
            return false;
        }
        return kind == STORE || b == 0;
    }

    /** Says whether there was room for it; without room nothing is done. */
    private boolean closeOpen() {
        packer.fill(open);
        if (!packer.moveBehind(pack)) {
            return false;
        }
        open.clear();
        blocksSoFar++;
        return true;
    }

    private static int sumOf(Ints bytes, int end) {
        int p = 0;
        int q = 0;
        for (int i = 0; i < end; i++) {
            p = (p + bytes.at(i)) % 255;
            q = (q + p) % 255;
        }
        return (p << 8) + q;
    }

    private static long numberOf(int difference) {
        return difference >= 0 ? difference * 2L : difference * -2L - 1;
    }

    private static int differenceOf(long number) {
        return (int) (number % 2 == 0 ? number / 2 : (number + 1) / -2);
    }

    /** Numbers in a row, made once and used again. NONE stands for what is not there: no byte is NONE. */
    private static final class Ints {
        private final int[] cells;
        private int size;

        Ints(int most) {
            cells = new int[Math.max(most, 0)];
        }

        int size() {
            return size;
        }

        boolean has(int i) {
            return i >= 0 && i < size;
        }

        int at(int i) {
            return i >= 0 && i < size ? cells[i] : NONE;
        }

        void set(int i, int value) {
            if (i >= 0 && i < size) {
                cells[i] = value;
            }
        }

        boolean add(int value) {
            if (size >= cells.length) {
                return false;
            }
            cells[size] = value;
            size++;
            return true;
        }

        void shorten(int length) {
            if (length >= 0 && length < size) {
                size = length;
            }
        }
    }

    /** Up to 100 rows of one thread: those that wait to be packed, or those that were unpacked. */
    private static final class Block {
        private final Ints kinds = new Ints(MOST_ROWS);
        private final Ints as = new Ints(MOST_ROWS);
        private final Ints bs = new Ints(MOST_ROWS);
        private int owner;
        private int time;

        void begin(int itsThread, int itsTime) {
            clear();
            owner = itsThread;
            time = itsTime;
        }

        void clear() {
            kinds.shorten(0);
            as.shorten(0);
            bs.shorten(0);
        }

        boolean isClosedBy(int nextThread) {
            return size() > 0 && (nextThread != owner || size() == MOST_ROWS);
        }

        boolean add(int kind, int a, int b) {
            return kinds.add(kind) && as.add(a) && bs.add(b);
        }

        int size() {
            return kinds.size();
        }

        int owner() {
            return owner;
        }

        int time() {
            return time;
        }

        int kind(int i) {
            return kinds.at(i);
        }

        int a(int i) {
            return as.at(i);
        }

        int b(int i) {
            return bs.at(i);
        }
    }

    /** Where the last LOAD or STORE was, and how far it was from the one before. */
    private static final class Places {
        private int place;
        private int stride;

        void clear() {
            place = 0;
            stride = 0;
        }

        int after(int difference) {
            return place + difference;
        }

        int expected() {
            return place + stride;
        }

        int last() {
            return place;
        }

        int differenceTo(int next) {
            return next - place;
        }

        void goTo(int next) {
            stride = next - place;
            place = next;
        }
    }

    /** The last eight different values, the latest one first. */
    private static final class LastValues {
        private final Ints values = new Ints(LAST_VALUES);

        void clear() {
            values.shorten(0);
        }

        boolean has(int number) {
            return values.has(number);
        }

        int at(int number) {
            return values.at(number);
        }

        int numberOfValue(int value) {
            for (int i = 0; i < values.size(); i++) {
                if (values.at(i) == value) {
                    return i;
                }
            }
            return NONE;
        }

        /** Puts the value first; those ahead of its old place go one place back. */
        void use(int value) {
            int carried = value;
            for (int i = 0; i < values.size(); i++) {
                int here = values.at(i);
                values.set(i, carried);
                if (here == value) {
                    return;
                }
                carried = here;
            }
            // With eight there already this adds none: the oldest one is forgotten.
            values.add(carried);
        }
    }

    /** What a block's rows so far say of the next one: packing and unpacking must remember the same. */
    private static final class Memory {
        private final Places loads = new Places();
        private final Places stores = new Places();
        private final LastValues values = new LastValues();
        private int jump;
        private int time;

        void begin(int blockTime) {
            loads.clear();
            stores.clear();
            values.clear();
            jump = 0;
            time = blockTime;
        }
    }

    /** Makes a block's inside first, because only then can be told whether the pack has room for it. */
    private static final class Packer {
        private final Ints inside = new Ints(MOST_INSIDE);
        private final Memory memory = new Memory();
        // A 1, and behind it the outcomes of the branches that are not written yet.
        private int outcomes = NO_OUTCOMES;

        void fill(Block block) {
            inside.shorten(0);
            memory.begin(block.time());
            inside.add(block.owner());
            addWord(block.time());
            inside.add(block.size());
            for (int i = 0; i < block.size(); i++) {
                if (block.kind(i) != BRANCH || outcomes >= FOUR_OUTCOMES) {
                    addBranches();
                }
                addRow(block.kind(i), block.a(i), block.b(i));
            }
            addBranches();
            int sum = sumOf(inside, inside.size());
            inside.add(sum >> 8);
            inside.add(sum & MOST_BYTE);
        }

        boolean moveBehind(Ints pack) {
            if (lengthShielded() > MOST_BYTES - pack.size()) {
                return false;
            }
            pack.add(MARK);
            for (int i = 0; i < inside.size(); i++) {
                int value = inside.at(i);
                if (isShielded(value)) {
                    pack.add(SHIELD);
                    pack.add(value == MARK ? BEHIND_SHIELD_MARK : BEHIND_SHIELD_SHIELD);
                } else {
                    pack.add(value);
                }
            }
            return true;
        }

        private int lengthShielded() {
            int length = 1 + inside.size();
            for (int i = 0; i < inside.size(); i++) {
                if (isShielded(inside.at(i))) {
                    length++;
                }
            }
            return length;
        }

        private static boolean isShielded(int value) {
            return value == MARK || value == SHIELD;
        }

        private void addRow(int kind, int a, int b) {
            switch (kind) {
                case BRANCH:
                    outcomes = outcomes * 2 + a;
                    break;
                case JUMP:
                    addKind(JUMP, 0);
                    addNumber(numberOf(a - memory.jump));
                    memory.jump = a;
                    break;
                case LOAD:
                    addLoad(a);
                    break;
                case STORE:
                    addStore(a, b);
                    break;
                default:
                    addKind(TIME, 0);
                    addNumber(a - memory.time);
                    memory.time = a;
                    break;
            }
        }

        private void addBranches() {
            if (outcomes != NO_OUTCOMES) {
                addKind(BRANCH, outcomes);
            }
            outcomes = NO_OUTCOMES;
        }

        private void addLoad(int place) {
            if (place == memory.loads.expected()) {
                addKind(LOAD, 0);
            } else {
                addKind(LOAD, DIFFERENCE_TOLD);
                addNumber(numberOf(memory.loads.differenceTo(place)));
            }
            memory.loads.goTo(place);
        }

        private void addStore(int place, int value) {
            boolean expected = place == memory.stores.expected();
            int number = memory.values.numberOfValue(value);
            int valueBits = number == NONE ? VALUE_TOLD : number;
            addKind(STORE, expected ? valueBits : STORE_DIFFERENCE_TOLD + valueBits);
            if (!expected) {
                addNumber(numberOf(memory.stores.differenceTo(place)));
            }
            if (number == NONE) {
                addWord(value);
            }
            memory.stores.goTo(place);
            memory.values.use(value);
        }

        private void addKind(int kind, int fiveBits) {
            inside.add((kind << KIND_SHIFT) + fiveBits);
        }

        private void addNumber(long number) {
            long rest = number;
            for (int i = 1; i < NUMBER_BYTES && rest >= MORE; i++) {
                inside.add((int) (rest % MORE) + MORE);
                rest = rest / MORE;
            }
            inside.add((int) rest);
        }

        private void addWord(int word) {
            for (int shift = 24; shift >= 0; shift -= 8) {
                inside.add(word >> shift & MOST_BYTE);
            }
        }
    }

    /** Takes a block's bytes apart. What is wrong in them is told by false, or by NONE instead of a number. */
    private static final class Unpacker {
        private final Ints inside = new Ints(MOST_INSIDE);
        private final Memory memory = new Memory();
        private final Block block = new Block();
        private int place;

        Block block() {
            return block;
        }

        boolean unpack(Ints pack, int from, int end) {
            if (!unshield(pack, from, end) || !takeSum() || !takeHead()) {
                return false;
            }
            int rows = inside.at(ROWS_PLACE);
            for (int i = 0; i < rows && inside.has(place); i++) {
                if (!takeRow()) {
                    return false;
                }
            }
            return block.size() == rows && place == inside.size();
        }

        /** More bytes than the inside has room for are more than 100 rows can have: broken as well. */
        private boolean unshield(Ints pack, int from, int end) {
            inside.shorten(0);
            boolean behindShield = false;
            for (int i = from; i < end; i++) {
                int value = pack.at(i);
                if (!behindShield && value == SHIELD) {
                    behindShield = true;
                    continue;
                }
                if (behindShield) {
                    value = unshielded(value);
                    behindShield = false;
                }
                if (value == NONE || !inside.add(value)) {
                    return false;
                }
            }
            return !behindShield;
        }

        private static int unshielded(int value) {
            if (value == BEHIND_SHIELD_MARK) {
                return MARK;
            }
            return value == BEHIND_SHIELD_SHIELD ? SHIELD : NONE;
        }

        /** Takes the sum off the end, so that what comes after ends where the rows end. */
        private boolean takeSum() {
            if (inside.size() < LEAST_INSIDE) {
                return false;
            }
            int end = inside.size() - SUM_BYTES;
            int told = (inside.at(end) << 8) + inside.at(end + 1);
            inside.shorten(end);
            return told == sumOf(inside, end);
        }

        private boolean takeHead() {
            int owner = inside.at(0);
            int rows = inside.at(ROWS_PLACE);
            place = TIME_PLACE;
            long time = takeWord();
            if (owner >= THREADS || time == NONE || time > LATEST_TIME || rows < 1 || rows > MOST_ROWS) {
                return false;
            }
            block.begin(owner, (int) time);
            memory.begin((int) time);
            place = HEAD_BYTES;
            return true;
        }

        private boolean takeRow() {
            int value = inside.at(place);
            int kind = value >> KIND_SHIFT;
            int fiveBits = value & FIVE_BITS;
            place++;
            long number = isNumberBehind(kind, fiveBits) ? takeNumber() : 0;
            if (number == NONE) {
                return false;
            }
            switch (kind) {
                case BRANCH: return takeBranches(fiveBits);
                case JUMP: return fiveBits == 0 && takeJump(number);
                case LOAD: return fiveBits <= DIFFERENCE_TOLD && takeLoad(fiveBits, number);
                case STORE: return takeStore(fiveBits, number);
                case TIME: return fiveBits == 0 && takeTime(number);
                default: return false;
            }
        }

        private static boolean isNumberBehind(int kind, int fiveBits) {
            switch (kind) {
                case JUMP: return true;
                case LOAD: return fiveBits == DIFFERENCE_TOLD;
                case STORE: return fiveBits >= STORE_DIFFERENCE_TOLD;
                case TIME: return true;
                default: return false;
            }
        }

        private boolean takeBranches(int fiveBits) {
            boolean right = fiveBits > NO_OUTCOMES;
            for (int bit = HIGHEST_OUTCOME; bit > 0 && right; bit >>= 1) {
                boolean isOutcome = fiveBits >= 2 * bit;
                right = !isOutcome || block.add(BRANCH, (fiveBits & bit) != 0 ? 1 : 0, 0);
            }
            return right;
        }

        private boolean takeJump(long number) {
            memory.jump += differenceOf(number);
            return block.add(JUMP, memory.jump, 0);
        }

        private boolean takeLoad(int fiveBits, long number) {
            Places loads = memory.loads;
            loads.goTo(fiveBits == DIFFERENCE_TOLD ? loads.after(differenceOf(number)) : loads.expected());
            return block.add(LOAD, loads.last(), 0);
        }

        private boolean takeStore(int fiveBits, long number) {
            boolean told = fiveBits >= STORE_DIFFERENCE_TOLD;
            int valueBits = told ? fiveBits - STORE_DIFFERENCE_TOLD : fiveBits;
            int value = memory.values.at(valueBits);
            if (valueBits == VALUE_TOLD) {
                long word = takeWord();
                if (word == NONE) {
                    return false;
                }
                value = (int) word;
            } else if (!memory.values.has(valueBits)) {
                return false;
            }
            Places stores = memory.stores;
            stores.goTo(told ? stores.after(differenceOf(number)) : stores.expected());
            memory.values.use(value);
            return block.add(STORE, stores.last(), value);
        }

        private boolean takeTime(long steps) {
            if (steps > LATEST_TIME - memory.time) {
                return false;
            }
            memory.time += (int) steps;
            return block.add(TIME, memory.time, 0);
        }

        private long takeNumber() {
            long number = 0;
            for (int i = 0; i < NUMBER_BYTES; i++) {
                int value = inside.at(place);
                place++;
                if (value == NONE) {
                    return NONE;
                }
                number += (long) (value % MORE) << 7 * i;
                if (value < MORE) {
                    return isLastOfNumber(value, i) ? number : NONE;
                }
            }
            return NONE;
        }

        private static boolean isLastOfNumber(int value, int i) {
            if (i == NUMBER_BYTES - 1 && value > LAST_NUMBER_BYTE) {
                return false;
            }
            return i == 0 || value != 0;
        }

        private long takeWord() {
            if (inside.size() - place < WORD_BYTES) {
                return NONE;
            }
            long word = 0;
            for (int i = 0; i < WORD_BYTES; i++) {
                word = (word << 8) + inside.at(place);
                place++;
            }
            return word;
        }
    }

    /** The rows that were kept, and the order that merges them. */
    private static final class Kept {
        private static final int WHATS = 6;

        private final Ints kinds = new Ints(MOST_KEPT);
        private final Ints as = new Ints(MOST_KEPT);
        private final Ints bs = new Ints(MOST_KEPT);
        private final Ints owners = new Ints(MOST_KEPT);
        private final Ints times = new Ints(MOST_KEPT);
        private final Ints blocks = new Ints(MOST_KEPT);
        private Ints order = new Ints(MOST_KEPT);
        private Ints spare = new Ints(MOST_KEPT);
        // Merging waits until it is asked for: many readings are never merged.
        private boolean isOrdered;

        void clear() {
            kinds.shorten(0);
            as.shorten(0);
            bs.shorten(0);
            owners.shorten(0);
            times.shorten(0);
            blocks.shorten(0);
            isOrdered = false;
        }

        boolean add(Block block, int i, int time, int number) {
            return kinds.add(block.kind(i)) && as.add(block.a(i)) && bs.add(block.b(i))
                && owners.add(block.owner()) && times.add(time) && blocks.add(number);
        }

        int size() {
            return kinds.size();
        }

        boolean has(int k, int what) {
            return kinds.has(k) && what >= 0 && what < WHATS;
        }

        int at(int k, int what) {
            switch (what) {
                case 0: return kinds.at(k);
                case 1: return as.at(k);
                case 2: return bs.at(k);
                case 3: return owners.at(k);
                case 4: return times.at(k);
                case 5: return blocks.at(k);
                default: return NONE;
            }
        }

        int byTime(int k) {
            if (!isOrdered) {
                putInOrder();
                isOrdered = true;
            }
            return order.at(k);
        }

        private void putInOrder() {
            order.shorten(0);
            for (int i = 0; i < size(); i++) {
                order.add(i);
            }
            for (int width = 1; width < size(); width *= 2) {
                spare.shorten(0);
                for (int start = 0; start < size(); start += 2 * width) {
                    joinRuns(start, Math.min(start + width, size()), Math.min(start + 2 * width, size()));
                }
                Ints joined = spare;
                spare = order;
                order = joined;
            }
        }

        /** Of two that are alike the left one goes first, so that rows of one thread stay as they were read. */
        private void joinRuns(int start, int middle, int end) {
            int left = start;
            int right = middle;
            for (int i = start; i < end; i++) {
                boolean takesLeft = left < middle && (right >= end || !goesBefore(order.at(right), order.at(left)));
                spare.add(order.at(takesLeft ? left : right));
                if (takesLeft) {
                    left++;
                } else {
                    right++;
                }
            }
        }

        private boolean goesBefore(int k, int other) {
            if (times.at(k) != times.at(other)) {
                return times.at(k) < times.at(other);
            }
            return owners.at(k) < owners.at(other);
        }
    }

    /** Goes through the pack block by block, and holds what the last reading found. */
    private static final class Reader {
        private final Unpacker unpacker = new Unpacker();
        private final Kept rows = new Kept();
        private int passedOver;
        private int blocks;
        private int broken;
        private int notKept;

        void readFrom(Ints pack, int from, int chosen) {
            clear();
            int first = firstMark(pack, from);
            passedOver = first - from;
            int start = first + 1;
            // One step beyond the last byte, because a block ends there too.
            for (int i = start; i <= pack.size(); i++) {
                if (i == pack.size() || pack.at(i) == MARK) {
                    if (unpacker.unpack(pack, start, i)) {
                        keepRows(unpacker.block(), chosen);
                    } else {
                        broken++;
                    }
                    start = i + 1;
                }
            }
        }

        Kept rows() {
            return rows;
        }

        int passedOver() {
            return passedOver;
        }

        int blocks() {
            return blocks;
        }

        int broken() {
            return broken;
        }

        int notKept() {
            return notKept;
        }

        private void clear() {
            rows.clear();
            blocks = 0;
            broken = 0;
            notKept = 0;
        }

        private static int firstMark(Ints pack, int from) {
            for (int i = from; i < pack.size(); i++) {
                if (pack.at(i) == MARK) {
                    return i;
                }
            }
            return pack.size();
        }

        private void keepRows(Block block, int chosen) {
            int time = block.time();
            for (int i = 0; i < block.size(); i++) {
                if (block.kind(i) == TIME) {
                    time = block.a(i);
                }
                if (!isChosen(chosen, block.kind(i), block.owner()) || !rows.add(block, i, time, blocks)) {
                    notKept++;
                }
            }
            blocks++;
        }

        private static boolean isChosen(int chosen, int kind, int owner) {
            return (chosen >> kind & 1) == 1 && (chosen >> THREADS_SHIFT + owner & 1) == 1;
        }
    }
}
