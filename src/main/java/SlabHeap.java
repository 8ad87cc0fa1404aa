import java.util.Arrays;

/** A heap whose words outlive a crash as far as they were kept; ../shared/DOC.md has its promises. */
public final class SlabHeap {
    public static final int NONE = -1;

    private static final int WORDS = 4096;
    private static final int PAGE = 16;
    private static final int PAGES = 256;
    private static final int LINE = 8;
    private static final int LINES = 512;
    private static final int ROOTS = 8;
    private static final int FIRST_ROOT = 1;

    private static final int MOST_SIZE = 2047;
    private static final int MOST_ORDER = 8;
    private static final int[] CLASSES = {2, 3, 4, 6, 8};
    /** All pages but page 0 with slots of the least class: no more blocks can be live at once. */
    private static final int MOST_BLOCKS = 2040;

    private static final int CHECK_UNIT = 4194304;
    private static final int SIZE_UNIT = 2048;

    private static final int FREE = 0;
    private static final int SLAB = 1;
    private static final int FIRST = 2;
    private static final int REST = 3;
    private static final int PAGE_ZERO = 4;

    private static final int FINE = 0;
    private static final int NO_ROOM = 1;
    private static final int NONE_SUCH = 2;
    private static final int NUMBER = 3;
    private static final int REFERRED = 4;

    private final Words words;
    private final Pages pages;
    /** One row for every walk and every list of blocks, so that no call makes a new one. */
    private final int[] row;
    private int found;
    private int cleared;
    private int crashes;
    private int latestTrouble;

    public SlabHeap() {
        words = new Words();
        pages = new Pages();
        row = new int[MOST_BLOCKS];
        found = 0;
        cleared = 0;
        crashes = 0;
        latestTrouble = FINE;
    }

    public int alloc(int size, int refs) {
        if (!isShape(size, refs)) {
            return answer(NUMBER, NONE);
        }
        int address = pages.placeFor(size);
        if (address == NONE) {
            return answer(NO_ROOM, NONE);
        }
        pages.add(address, size);
        words.write(address, headOf(address, size, refs));
        for (int i = 0; i < size; i++) {
            words.write(wordOf(address, i), 0);
        }
        return answer(FINE, address);
    }

    public int free(int address) {
        if (!pages.isLive(address)) {
            return answer(NONE_SUCH, NONE);
        }
        if (leadsTo(address) > 0) {
            return answer(REFERRED, NONE);
        }
        int length = lengthOf(address);
        release(address);
        return answer(FINE, length);
    }

    public boolean put(int address, int i, int v) {
        if (!hasWord(address, i) || i < refsOf(address)) {
            return settle(NONE_SUCH);
        }
        words.write(wordOf(address, i), v);
        return settle(FINE);
    }

    public boolean refer(int address, int i, int to) {
        if (!hasWord(address, i) || i >= refsOf(address) || !isTarget(to)) {
            return settle(NONE_SUCH);
        }
        words.write(wordOf(address, i), to);
        return settle(FINE);
    }

    public int get(int address, int i) {
        return hasWord(address, i) ? words.at(wordOf(address, i)) : 0;
    }

    public boolean root(int i, int to) {
        if (!isRoot(i) || !isTarget(to)) {
            return settle(NONE_SUCH);
        }
        words.write(FIRST_ROOT + i, to);
        return settle(FINE);
    }

    public int rootOf(int i) {
        return isRoot(i) ? words.at(FIRST_ROOT + i) : NONE;
    }

    public int fence() {
        return words.keepAll();
    }

    public int crash(int mask) {
        words.keepSome(mask);
        crashes++;
        recover();
        return found;
    }

    public int collect() {
        markReached();
        int live = listLive();
        int freed = 0;
        for (int k = 0; k < live; k++) {
            int address = rowAt(k);
            if (!pages.isMarked(address)) {
                release(address);
                freed++;
            }
        }
        return freed;
    }

    public int word(int w, boolean kept) {
        return kept ? words.keptAt(w) : words.at(w);
    }

    public boolean scribble(int w, int v) {
        if (w < PAGE || w >= WORDS) {
            return settle(NUMBER);
        }
        if (isOfBlock(w)) {
            return settle(NONE_SUCH);
        }
        words.write(w, v);
        return settle(FINE);
    }

    public int block(int address, int what) {
        if (!pages.isLive(address)) {
            return NONE;
        }
        switch (what) {
            case 0: return sizeOf(address);
            case 1: return refsOf(address);
            case 2: return classFor(sizeOf(address));
            case 3: return orderFor(sizeOf(address));
            case 4: return leadsTo(address);
            default: return NONE;
        }
    }

    public int live(int i) {
        int live = listLive();
        return i >= 0 && i < live ? rowAt(i) : NONE;
    }

    public int page(int p, int what) {
        if (!isPage(p)) {
            return NONE;
        }
        switch (what) {
            case 0: return pages.kindOf(p);
            case 1: return pages.formOf(p);
            case 2: return pages.blocksOn(p);
            case 3: return pages.firstOf(p);
            default: return NONE;
        }
    }

    public int extents(int order) {
        return pages.freeExtents(order);
    }

    public int next(int order) {
        return pages.extentFor(order);
    }

    public int count(int what) {
        switch (what) {
            case 0: return listLive();
            case 1: return pages.howMany(FREE);
            case 2: return pages.howMany(SLAB);
            case 3: return pages.emptySlots();
            case 4: return words.waiting();
            case 5: return cleared;
            case 6: return liveWords();
            case 7: return crashes;
            default: return NONE;
        }
    }

    public int head(int address, int size, int refs) {
        boolean right = address >= PAGE && address < WORDS && isShape(size, refs);
        return right ? headOf(address, size, refs) : 0;
    }

    public int waits(int k) {
        return words.lineAt(k);
    }

    public int trouble() {
        return latestTrouble;
    }

    private boolean settle(int trouble) {
        latestTrouble = trouble;
        return trouble == FINE;
    }

    private int answer(int trouble, int value) {
        latestTrouble = trouble;
        return value;
    }

    private static boolean isWord(int w) {
        return w >= 0 && w < WORDS;
    }

    private static boolean isPage(int p) {
        return p >= 0 && p < PAGES;
    }

    private static boolean isOrder(int order) {
        return order >= 0 && order <= MOST_ORDER;
    }

    private static boolean isRoot(int i) {
        return i >= 0 && i < ROOTS;
    }

    private static boolean isShape(int size, int refs) {
        return size >= 1 && size <= MOST_SIZE && refs >= 0 && refs <= size;
    }

    private static int wordOf(int address, int i) {
        return address + 1 + i;
    }

    private static int headOf(int address, int size, int refs) {
        int check = Math.floorMod(31 * address + 7 * size + 13 * refs + 90, 512) + 1;
        return check * CHECK_UNIT + size * SIZE_UNIT + refs;
    }

    private static int sizeIn(int head) {
        return (head >>> 11) & MOST_SIZE;
    }

    private static int refsIn(int head) {
        return head & MOST_SIZE;
    }

    /** 0 if a block of this size is not small. */
    private static int classFor(int size) {
        for (int c : CLASSES) {
            if (size + 1 <= c) {
                return c;
            }
        }
        return 0;
    }

    /** NONE if a block of this size is small. */
    private static int orderFor(int size) {
        if (classFor(size) > 0) {
            return NONE;
        }
        for (int order = 0; order <= MOST_ORDER; order++) {
            if (size + 1 <= PAGE << order) {
                return order;
            }
        }
        return NONE;
    }

    // Nothing can write over the head of a live block, so its size and refs are read from there.
    private int sizeOf(int address) {
        return sizeIn(words.at(address));
    }

    private int refsOf(int address) {
        return refsIn(words.at(address));
    }

    private int lengthOf(int address) {
        return sizeOf(address) + 1;
    }

    private boolean hasWord(int address, int i) {
        return pages.isLive(address) && i >= 0 && i < sizeOf(address);
    }

    private boolean isTarget(int to) {
        return to == 0 || pages.isLive(to);
    }

    private boolean isOfBlock(int w) {
        int address = pages.blockOver(w);
        return address != NONE && w - address < lengthOf(address);
    }

    private int rowAt(int k) {
        return k >= 0 && k < row.length ? row[k] : NONE;
    }

    /** Fills the row with the live blocks by addresses. */
    private int listLive() {
        int n = 0;
        for (int p = 1; p < PAGES; p++) {
            int slots = pages.slotsOf(p);
            for (int slot = 0; slot < slots; slot++) {
                int address = pages.blockIn(p, slot);
                if (address != NONE && n < row.length) {
                    row[n] = address;
                    n++;
                }
            }
        }
        return n;
    }

    private int liveWords() {
        int live = listLive();
        int sum = 0;
        for (int k = 0; k < live; k++) {
            sum += lengthOf(rowAt(k));
        }
        return sum;
    }

    private int leadsTo(int address) {
        int n = equalWords(FIRST_ROOT, ROOTS, address);
        int live = listLive();
        for (int k = 0; k < live; k++) {
            int from = rowAt(k);
            n += equalWords(wordOf(from, 0), refsOf(from), address);
        }
        return n;
    }

    private int equalWords(int from, int length, int v) {
        int n = 0;
        for (int i = 0; i < length; i++) {
            if (words.at(from + i) == v) {
                n++;
            }
        }
        return n;
    }

    private void release(int address) {
        pages.remove(address);
        words.write(address, 0);
    }

    private void addFound(int address) {
        if (found < row.length) {
            row[found] = address;
            found++;
        }
    }

    private void markReached() {
        pages.clearMarks();
        found = 0;
        markFrom(FIRST_ROOT, ROOTS);
        for (int k = 0; k < found && k < row.length; k++) {
            int address = rowAt(k);
            markFrom(wordOf(address, 0), refsOf(address));
        }
    }

    private void markFrom(int from, int length) {
        for (int i = 0; i < length; i++) {
            int to = words.at(from + i);
            if (pages.mark(to)) {
                addFound(to);
            }
        }
    }

    private void recover() {
        pages.freeAll();
        found = 0;
        cleared = 0;
        reviveFrom(FIRST_ROOT, ROOTS);
        for (int k = 0; k < found && k < row.length; k++) {
            int address = rowAt(k);
            reviveFrom(wordOf(address, 0), refsOf(address));
        }
    }

    private void reviveFrom(int from, int length) {
        for (int i = 0; i < length; i++) {
            int to = words.at(from + i);
            if (isTarget(to)) {
                continue;
            }
            if (canRevive(to)) {
                pages.add(to, sizeOf(to));
                addFound(to);
            } else {
                words.write(from + i, 0);
                cleared++;
            }
        }
    }

    private boolean canRevive(int address) {
        if (address < PAGE || address >= WORDS) {
            return false;
        }
        int size = sizeOf(address);
        int refs = refsOf(address);
        return isShape(size, refs)
            && words.at(address) == headOf(address, size, refs)
            && pages.canHold(address, size);
    }

    /** The words as they are and as they were kept, with the lines that wait in their order. */
    private static final class Words {
        private final int[] now = new int[WORDS];
        private final int[] kept = new int[WORDS];
        private final int[] queue = new int[LINES];
        private final boolean[] queued = new boolean[LINES];
        private int queueLength = 0;

        int at(int w) {
            return isWord(w) ? now[w] : 0;
        }

        int keptAt(int w) {
            return isWord(w) ? kept[w] : 0;
        }

        int waiting() {
            return queueLength;
        }

        int lineAt(int k) {
            return k >= 0 && k < queueLength && k < queue.length ? queue[k] : NONE;
        }

        void write(int w, int v) {
            if (!isWord(w)) {
                return;
            }
            now[w] = v;
            int line = w / LINE;
            if (!queued[line] && queueLength < queue.length) {
                queued[line] = true;
                queue[queueLength] = line;
                queueLength++;
            }
        }

        int keepAll() {
            int waited = queueLength;
            keepSome(-1);
            return waited;
        }

        /** A line that doesn't wait is the same in both rows, so those that wait are all there is to settle. */
        void keepSome(int mask) {
            for (int k = 0; k < queueLength; k++) {
                boolean keeps = (mask >>> (k % 32) & 1) == 1;
                settleLine(lineAt(k), keeps ? now : kept, keeps ? kept : now);
            }
            queueLength = 0;
        }

        private void settleLine(int line, int[] from, int[] to) {
            if (line < 0 || line >= LINES) {
                return;
            }
            queued[line] = false;
            for (int w = line * LINE; w < (line + 1) * LINE; w++) {
                to[w] = from[w];
            }
        }
    }

    /**
     * What each page is, and which slots have live blocks. The first page of an extent counts as
     * a page with one slot, so that all blocks can be gone through alike.
     */
    private static final class Pages {
        private final int[] kinds = new int[PAGES];
        private final int[] forms = new int[PAGES];
        private final int[] taken = new int[PAGES];
        private final int[] marks = new int[PAGES];

        Pages() {
            kinds[0] = PAGE_ZERO;
        }

        void freeAll() {
            Arrays.fill(kinds, FREE);
            Arrays.fill(taken, 0);
            kinds[0] = PAGE_ZERO;
        }

        int kindOf(int p) {
            return p >= 0 && p < PAGES ? kinds[p] : NONE;
        }

        /** A slab's class, or the order of the extent, free or not, that has the page. */
        int formOf(int p) {
            if (!isPage(p) || kinds[p] == PAGE_ZERO) {
                return NONE;
            }
            return kinds[p] == FREE ? freeOrderAt(p) : forms[p];
        }

        int firstOf(int p) {
            int kind = kindOf(p);
            boolean single = kind == SLAB || kind == PAGE_ZERO;
            return single ? p : alignedTo(p, formOf(p));
        }

        int blocksOn(int p) {
            return isPage(p) ? Integer.bitCount(taken[p]) : 0;
        }

        int slotsOf(int p) {
            int step = stepOf(p);
            return step > 0 ? PAGE / step : 0;
        }

        int blockIn(int p, int slot) {
            return isTaken(p, slot) ? p * PAGE + slot * stepOf(p) : NONE;
        }

        boolean isLive(int address) {
            return isTaken(pageOf(address), slotAt(address));
        }

        /** The live block whose slot or extent has this word, be it the block's own or left over. */
        int blockOver(int w) {
            int p = pageOf(w);
            if (isPage(p) && kinds[p] == REST) {
                return blockIn(alignedTo(p, forms[p]), 0);
            }
            int step = stepOf(p);
            return step > 0 ? blockIn(p, w % PAGE / step) : NONE;
        }

        int placeFor(int size) {
            int form = classFor(size);
            int address = form > 0 ? emptySlot(form) : NONE;
            if (address != NONE) {
                return address;
            }
            int p = extentFor(form > 0 ? 0 : orderFor(size));
            return p == NONE ? NONE : p * PAGE;
        }

        boolean canHold(int address, int size) {
            int p = pageOf(address);
            int form = classFor(size);
            if (form > 0) {
                boolean fits = slotBy(form, address % PAGE) != NONE;
                return fits && (kindOf(p) == FREE || isSlabOf(p, form));
            }
            int order = orderFor(size);
            return address % PAGE == 0 && alignedTo(p, order) == p && isFreeRun(p, order);
        }

        void add(int address, int size) {
            int p = pageOf(address);
            int form = classFor(size);
            if (form > 0) {
                lay(p, SLAB, form);
            } else {
                layExtent(p, orderFor(size));
            }
            int slot = slotAt(address);
            if (isPage(p) && slot != NONE) {
                taken[p] |= 1 << slot;
            }
        }

        void remove(int address) {
            int p = pageOf(address);
            int slot = slotAt(address);
            if (!isPage(p) || !isTaken(p, slot)) {
                return;
            }
            taken[p] &= ~(1 << slot);
            if (taken[p] == 0) {
                int length = kinds[p] == FIRST ? 1 << forms[p] : 1;
                for (int i = 0; i < length; i++) {
                    lay(p + i, FREE, 0);
                }
            }
        }

        void clearMarks() {
            Arrays.fill(marks, 0);
        }

        boolean isMarked(int address) {
            int p = pageOf(address);
            int slot = slotAt(address);
            return isPage(p) && isTaken(p, slot) && (marks[p] >>> slot & 1) == 1;
        }

        /** False if there is no live block, or if it has been marked already. */
        boolean mark(int address) {
            int p = pageOf(address);
            if (!isPage(p) || !isLive(address) || isMarked(address)) {
                return false;
            }
            marks[p] |= 1 << slotAt(address);
            return true;
        }

        int howMany(int kind) {
            int n = 0;
            for (int p = 0; p < PAGES; p++) {
                if (kindOf(p) == kind) {
                    n++;
                }
            }
            return n;
        }

        /** An extent's one slot is never empty, so only slabs add to the sum. */
        int emptySlots() {
            int n = 0;
            for (int p = 0; p < PAGES; p++) {
                n += slotsOf(p) - blocksOn(p);
            }
            return n;
        }

        int freeExtents(int order) {
            if (!isOrder(order)) {
                return NONE;
            }
            int n = 0;
            for (int p = 0; p < PAGES; p += 1 << order) {
                if (isFreeExtent(p, order)) {
                    n++;
                }
            }
            return n;
        }

        /** The first page of the free extent that is halved or taken for an order. */
        int extentFor(int order) {
            if (!isOrder(order)) {
                return NONE;
            }
            for (int o = order; o <= MOST_ORDER; o++) {
                for (int p = 0; p < PAGES; p += 1 << o) {
                    if (isFreeExtent(p, o)) {
                        return p;
                    }
                }
            }
            return NONE;
        }

        private static int pageOf(int w) {
            return w >= 0 && w < WORDS ? w / PAGE : NONE;
        }

        private static int alignedTo(int p, int order) {
            return isOrder(order) ? p >> order << order : p;
        }

        private static int slotBy(int step, int offset) {
            if (step <= 0 || offset < 0 || offset % step != 0) {
                return NONE;
            }
            int slot = offset / step;
            return slot < PAGE / step ? slot : NONE;
        }

        private int stepOf(int p) {
            if (p < 0 || p >= PAGES) {
                return 0;
            }
            return kinds[p] == SLAB ? forms[p] : kinds[p] == FIRST ? PAGE : 0;
        }

        private int slotAt(int address) {
            return slotBy(stepOf(pageOf(address)), address % PAGE);
        }

        private boolean isTaken(int p, int slot) {
            return p >= 0 && p < PAGES && slot >= 0 && (taken[p] >>> slot & 1) == 1;
        }

        private boolean isSlabOf(int p, int form) {
            return isPage(p) && kinds[p] == SLAB && forms[p] == form;
        }

        private int emptySlot(int form) {
            for (int p = 1; p < PAGES; p++) {
                if (!isSlabOf(p, form)) {
                    continue;
                }
                int slots = slotsOf(p);
                for (int slot = 0; slot < slots; slot++) {
                    if (!isTaken(p, slot)) {
                        return p * PAGE + slot * form;
                    }
                }
            }
            return NONE;
        }

        private void lay(int p, int kind, int form) {
            if (isPage(p)) {
                kinds[p] = kind;
                forms[p] = form;
            }
        }

        private void layExtent(int p, int order) {
            if (!isOrder(order)) {
                return;
            }
            lay(p, FIRST, order);
            int length = 1 << order;
            for (int i = 1; i < length; i++) {
                lay(p + i, REST, order);
            }
        }

        private boolean isFreeRun(int first, int order) {
            if (!isOrder(order) || first < 0 || first + (1 << order) > PAGES) {
                return false;
            }
            int length = 1 << order;
            for (int i = 0; i < length; i++) {
                if (kindOf(first + i) != FREE) {
                    return false;
                }
            }
            return true;
        }

        /** Free, and not a half of a free run that is twice as great. */
        private boolean isFreeExtent(int first, int order) {
            return isFreeRun(first, order) && !isFreeRun(alignedTo(first, order + 1), order + 1);
        }

        private int freeOrderAt(int p) {
            for (int order = 0; order <= MOST_ORDER; order++) {
                if (isFreeExtent(alignedTo(p, order), order)) {
                    return order;
                }
            }
            return NONE;
        }
    }
}
