import java.io.IOException;
import java.nio.file.Files;
import java.nio.file.Path;

/**
 * One test for each sentence of the document that names a boundary case. A test begins with the
 * sentence's own words, which must stand in the document, so that a test of what it no longer says is seen.
 */
public final class BoundaryTest {
  private static final Path DOCUMENT = Path.of("..", "shared", "DOC.md");
  private static final int MIN = Integer.MIN_VALUE;
  private static final int MAX = Integer.MAX_VALUE;
  private static final int NONE = -1;
  private static final int[] CLASSES = {2, 3, 4, 6, 8};
  /** The order's greatest block: 2 to the order pages, all words of them its own. */
  private static final int[] GREATEST = {15, 31, 63, 127, 255, 511, 1023, 2047};

  private static String document = "";
  private static String words = "";
  private static int sentences = 0;
  private static int wrong = 0;
  private static SlabHeap x = new SlabHeap();

  private static void sentence(String quoted) {
    words = quoted;
    sentences++;
    fresh();
    if (!document.contains(quoted)) fail("the document doesn't say this");
  }

  /** An object answers for 512 calls only, so long tests change it. */
  private static void fresh() { x = new SlabHeap(); }

  private static void fail(String text) {
    wrong++;
    System.out.println("'" + words + "': " + text);
  }

  private static void due(String what, long got, long want) {
    if (got != want) fail(what + " answered " + got + ", due is " + want);
  }

  private static void yes(String what, boolean got) {
    if (!got) fail(what + " was refused");
    due("trouble after " + what, x.trouble(), 0);
  }

  private static void no(String what, boolean got, int trouble) {
    if (got) fail(what + " was not refused");
    due("trouble after " + what, x.trouble(), trouble);
  }

  private static void none(String what, int got, int trouble) {
    due(what, got, NONE);
    due("trouble after " + what, x.trouble(), trouble);
  }

  private static void got(String what, int got, int want) {
    due(what, got, want);
    due("trouble after " + what, x.trouble(), 0);
  }

  private static void lines(int... wants) {
    due("count(4)", x.count(4), wants.length);
    for (int k = 0; k < wants.length; k++) due("waits(" + k + ")", x.waits(k), wants[k]);
    due("waits(" + wants.length + ")", x.waits(wants.length), NONE);
  }

  private static void blocks(int... wants) {
    due("count(0)", x.count(0), wants.length);
    for (int k = 0; k < wants.length; k++) due("live(" + k + ")", x.live(k), wants[k]);
    due("live(" + wants.length + ")", x.live(wants.length), NONE);
  }

  private static void freeByOrders(int... wants) {
    for (int order = 0; order <= 8; order++) due("extents(" + order + ")", x.extents(order), wants[order]);
  }

  private static int headOf(int address, int size, int refs) {
    long check = (31L * address + 7L * size + 13L * refs + 90) % 512 + 1;
    return (int) (check * 4194304L + size * 2048L + refs);
  }

  /** A word with the right CHECK for a size and refs that no block has. */
  private static void scrawlHead(int address, int size, int refs) {
    x.scribble(address, headOf(address, size, refs));
  }

  /**
   * A block of the next free page whose references 7 to 14 are these words after the crash: they are
   * kept ahead, and of the new block only the line of the head is kept. All its other references are 0.
   */
  private static int crashInto(int... strays) {
    int address = 16 * x.next(0);
    for (int i = 0; i < strays.length; i++) x.scribble(address + 8 + i, strays[i]);
    x.fence();
    due("alloc for the strays", x.alloc(15, 15), address);
    x.root(0, address);
    x.crash(5);
    return address;
  }

  private static int strayAt(int address, int i) { return x.get(address, 7 + i); }

  /** A block as great as each order, from order 7 down: no page is free then, and no word is left over. */
  private static void fillWithExtents() {
    for (int order = 7; order >= 0; order--) due("alloc of order " + order, x.alloc(GREATEST[order], 0), 16 << order);
  }

  // ---------------------------------------------------------------- Terms I

  private static void words() {
    sentence("The heap has 4,096 WORDS (ints), 0 at first");
    int[] edges = {0, 1, 15, 16, 4094, 4095};
    for (int w : edges) {
      due("word(" + w + ", false)", x.word(w, false), 0);
      due("word(" + w + ", true)", x.word(w, true), 0);
    }
    x.scribble(4095, MIN);
    x.scribble(4094, MAX);
    due("the least int", x.word(4095, false), MIN);
    due("the greatest int", x.word(4094, false), MAX);

    sentence("by PAGES of 16 (page p: words 16 p to 16 p + 15)");
    due("all of page 1", x.alloc(15, 0), 16);
    no("page 1's first word", x.scribble(16, 1), 2);
    no("page 1's last word", x.scribble(31, 1), 2);
    yes("page 2's first word", x.scribble(32, 1));
    for (int p = 2; p < 256; p++) x.alloc(15, 0);
    due("the last page", x.live(254), 4080);
    no("its last word", x.scribble(4095, 1), 2);

    sentence("and LINES of 8");
    x.scribble(23, 1);
    x.scribble(24, 1);
    x.scribble(16, 1);
    x.scribble(31, 1);
    x.scribble(32, 1);
    x.scribble(4087, 1);
    x.scribble(4088, 1);
    x.scribble(4095, 1);
    lines(2, 3, 4, 510, 511);
  }

  private static void pageZero() {
    sentence("PAGE 0 has the ROOTS in words 1 to 8");
    int block = x.alloc(1, 0);
    for (int i = 0; i < 8; i++) {
      due("word " + (1 + i) + " ahead", x.word(1 + i, false), 0);
      x.root(i, block);
      due("word " + (1 + i), x.word(1 + i, false), block);
    }
    due("word 0", x.word(0, false), 0);
    due("word 9", x.word(9, false), 0);

    sentence("and is never free");
    due("when new", x.page(0, 0), 4);
    due("FREE pages when new", x.count(1), 255);
    due("next(0) when new", x.next(0), 1);
    fillWithExtents();
    none("no page is left", x.alloc(1, 0), 1);
    due("collect()", x.collect(), 8);
    due("after all is freed", x.page(0, 0), 4);
    freeByOrders(1, 1, 1, 1, 1, 1, 1, 1, 0);
    x.crash(-1);
    due("after a crash", x.page(0, 0), 4);
    due("FREE pages after a crash", x.count(1), 255);
    freeByOrders(1, 1, 1, 1, 1, 1, 1, 1, 0);
  }

  private static void shapes() {
    sentence("A BLOCK of a SIZE (1 .. 2,047) with REFS (0 .. SIZE)");
    int[][] right = {{1, 0}, {1, 1}, {2, 2}, {7, 7}, {8, 8}, {1023, 0}, {1023, 1023}};
    for (int[] s : right) {
      int address = x.alloc(s[0], s[1]);
      due("SIZE", x.block(address, 0), s[0]);
      due("REFS", x.block(address, 1), s[1]);
    }
    fresh();
    due("the greatest", x.alloc(2047, 2047), 2048);
    due("its SIZE", x.block(2048, 0), 2047);
    due("its REFS", x.block(2048, 1), 2047);

    sentence("has SIZE + 1 words: its HEAD, then its words 0 .. SIZE - 1");
    x.alloc(1, 0);
    due("words of the least", x.count(6), 2);
    x.alloc(2047, 0);
    due("words of the greatest", x.count(6) - 2, 2048);
    due("the HEAD is ahead of them", x.word(2048, false), headOf(2048, 2047, 0));
    yes("word 0", x.put(2048, 0, 5));
    due("where word 0 is", x.word(2049, false), 5);
    yes("word SIZE - 1", x.put(2048, 2046, 6));
    due("where the last word is", x.word(4095, false), 6);
    no("word SIZE", x.put(2048, 2047, 7), 2);
    yes("the only word", x.put(16, 0, 8));
    due("where the only word is", x.word(17, false), 8);
    yes("the word behind it is no BLOCK's", x.scribble(18, 9));

    sentence("of which the first REFS are REFERENCES: 0, or the address (the HEAD's word) of a BLOCK");
    int none = x.alloc(3, 0);
    int two = x.alloc(3, 2);
    int all = x.alloc(3, 3);
    no("REFERENCE 0 of none", x.refer(none, 0, none), 2);
    yes("word 0 of none", x.put(none, 0, 1));
    yes("REFERENCE 1 of two", x.refer(two, 1, none));
    due("it is the HEAD's word", x.word(two + 2, false), none);
    no("REFERENCE 2 of two", x.refer(two, 2, none), 2);
    no("word 1 of two", x.put(two, 1, 1), 2);
    yes("word 2 of two", x.put(two, 2, 1));
    yes("REFERENCE 2 of three", x.refer(all, 2, all));
    no("word 2 of three", x.put(all, 2, 1), 2);
    due("REFERENCES are 0 at first", x.get(all, 0) | x.get(two, 0), 0);
  }

  private static void headWords() {
    sentence("A HEAD is CHECK * 4194304 + SIZE * 2048 + REFS (an int that wraps)");
    due("CHECK 82", x.head(16, 1, 0), 343934976);
    due("CHECK 511, the last that doesn't wrap", x.head(16, 428, 0), 511 * 4194304 + 428 * 2048);
    due("CHECK 512 wraps", x.head(162, 1, 0), MIN + 2048);
    due("CHECK 512 with REFS", x.head(16, 280, 1), MIN + 280 * 2048 + 1);
    due("SIZE and REFS at their greatest", x.head(2048, 2047, 2047), headOf(2048, 2047, 2047));
    for (int p = 1; p <= 9; p++) x.alloc(15, 0);
    due("ahead of a BLOCK whose CHECK is 512", x.alloc(1, 0), 160);
    due("that BLOCK", x.alloc(1, 0), 162);
    due("its HEAD", x.word(162, false), MIN + 2048);
    due("its SIZE", x.block(162, 0), 1);
    due("its REFS", x.block(162, 1), 0);
    x.root(0, 162);
    due("it is found after a crash", x.crash(-1), 1);

    sentence("CHECK = (31 * address + 7 * SIZE + 13 * REFS + 90) mod 512 + 1");
    due("the sum is a multiple of 512: CHECK 1", x.head(129, 1, 0), 4194304 + 2048);
    due("CHECK 1 again", x.head(16, 282, 0), 4194304 + 282 * 2048);
    due("one more: CHECK 2", x.head(16, 209, 0), 2 * 4194304 + 209 * 2048);
    due("one less: CHECK 512", x.head(16, 355, 0), MIN + 355 * 2048);
    due("an address counts 31", x.head(17, 1, 0) - x.head(16, 1, 0), 31 * 4194304);
    due("SIZE counts 7", x.head(16, 2, 0) - x.head(16, 1, 0), 7 * 4194304 + 2048);
    due("REFS count 13", x.head(16, 1, 1) - x.head(16, 1, 0), 13 * 4194304 + 1);
    due("the greatest of all", x.head(4095, 2047, 2047), 171966463);
  }

  private static void small() {
    sentence("SMALL are BLOCKS of at most 8 words");
    due("8 words", x.alloc(7, 0), 16);
    due("its CLASS", x.block(16, 2), 8);
    due("its ORDER", x.block(16, 3), NONE);
    due("9 words", x.alloc(8, 0), 32);
    due("its CLASS", x.block(32, 2), 0);
    due("its ORDER", x.block(32, 3), 0);
    due("the page of 8 words", x.page(1, 0), 1);
    due("the page of 9 words", x.page(2, 0), 2);

    sentence("their CLASS is the least of 2, 3, 4, 6, 8 that holds them");
    int[] wants = {2, 3, 4, 6, 6, 8, 8};
    for (int size = 1; size <= 7; size++) {
      int address = x.alloc(size, 0);
      due("CLASS of SIZE " + size, x.block(address, 2), wants[size - 1]);
      due("CLASS of its page", x.page(address / 16, 1), wants[size - 1]);
    }
    due("SLABS", x.count(2), 5);

    sentence("a SLAB is a page of one CLASS, with 16 / CLASS slots (downwards), from its first word on");
    int[] slots = {8, 5, 4, 2, 2};
    for (int c = 0; c < CLASSES.length; c++) {
      fresh();
      for (int slot = 0; slot < slots[c]; slot++) {
        due("slot " + slot + " of CLASS " + CLASSES[c], x.alloc(CLASSES[c] - 1, 0), 16 + slot * CLASSES[c]);
        due("empty slots", x.count(3), slots[c] - 1 - slot);
      }
      due("BLOCKS of the full page", x.page(1, 2), slots[c]);
      due("one more of CLASS " + CLASSES[c], x.alloc(CLASSES[c] - 1, 0), 32);
    }
  }

  private static void extentShapes() {
    sentence("Others are EXTENTS of ORDER o: 2 to the o pages (the least that hold them)");
    for (int order = 0; order <= 7; order++) {
      int least = order == 0 ? 8 : GREATEST[order - 1] + 1;
      int pages = 1 << order;
      for (int size : new int[] {least, GREATEST[order]}) {
        fresh();
        due("where SIZE " + size + " is", x.alloc(size, 0), 16 * pages);
        due("its ORDER", x.block(16 * pages, 3), order);
        due("pages that are left", x.count(1), 255 - pages);
        due("its last page", x.page(2 * pages - 1, 0), order == 0 ? 2 : 3);
        due("its last page's first", x.page(2 * pages - 1, 3), pages);
        if (order < 7) due("the page behind it", x.page(2 * pages, 0), 0);
      }
    }

    sentence("from a page that is a multiple of that");
    due("page 1", x.alloc(15, 0), 16);
    due("page 2", x.alloc(15, 0), 32);
    due("ORDER 1 is not at page 3", x.alloc(31, 0), 64);
    due("ORDER 2 is not at page 6", x.alloc(63, 0), 128);
    due("ORDER 3 is not at page 12", x.alloc(127, 0), 256);
    due("ORDER 7", x.alloc(2047, 0), 2048);
    none("a second one would be at page 0", x.alloc(1024, 0), 1);
  }

  private static void freePages() {
    sentence("FREE are pages that are neither page 0, SLABS nor of EXTENTS");
    due("when new", x.count(1), 255);
    x.alloc(1, 0);
    due("without a SLAB", x.count(1), 254);
    x.alloc(33, 0);
    due("without 4 pages for 34 words", x.count(1), 250);
    due("the SLAB", x.page(1, 0), 1);
    due("the EXTENT's first", x.page(4, 0), 2);
    due("the EXTENT's last, no word of it in use", x.page(7, 0), 3);
    due("ahead of it", x.page(3, 0), 0);
    due("behind it", x.page(8, 0), 0);

    sentence("each as great as can be (a multiple of its size, all its pages FREE)");
    freeByOrders(1, 1, 1, 1, 1, 1, 1, 1, 0);
    for (int p = 1; p <= 8; p++) x.alloc(15, 0);
    x.free(48);
    x.free(64);
    due("pages 3 and 4 are no pair", x.page(3, 1), 0);
    due("pages 3 and 4 are no pair", x.page(4, 1), 0);
    due("they and page 9", x.extents(0), 3);
    x.free(80);
    due("pages 4 and 5 are a pair", x.page(5, 3), 4);
    due("its ORDER", x.page(4, 1), 1);
    x.free(112);
    due("pages 4, 5 and 7 are not four", x.page(4, 1), 1);
    due("page 7 is alone", x.page(7, 1), 0);
    x.free(96);
    due("pages 4 to 7 are four", x.page(7, 3), 4);
    due("their ORDER", x.page(5, 1), 2);
    x.free(128);
    due("page 8 joins up to page 15", x.page(15, 3), 8);
    x.free(32);
    due("page 0 joins nothing", x.page(2, 1), 1);
    x.free(16);
    freeByOrders(1, 1, 1, 1, 1, 1, 1, 1, 0);
  }

  // ---------------------------------------------------------------- Terms II

  private static void smallOnes() {
    sentence("of the SLABS of its CLASS that have an empty slot, the one of the least page, its first empty slot");
    int[] at = new int[12];
    for (int i = 0; i < 12; i++) at[i] = x.alloc(3, 0);
    due("the third page's last", at[11], 60);
    x.free(60);
    x.free(36);
    x.free(44);
    due("the least page, its first", x.alloc(3, 0), 36);
    due("the least page, its last slot", x.alloc(3, 0), 44);
    due("the last page", x.alloc(3, 0), 60);
    x.free(16);
    due("the first slot of the first page", x.alloc(2 + 1, 3), 16);

    sentence("if there is none, a page becomes such a SLAB: a free EXTENT of ORDER 0 is taken");
    due("no SLAB at all", x.alloc(1, 0), 16);
    due("a SLAB of another CLASS only", x.alloc(2, 0), 32);
    for (int i = 0; i < 7; i++) x.alloc(1, 0);
    due("a full SLAB only", x.alloc(1, 0), 48);
    fresh();
    due("the last page", x.alloc(1, 0), 16);
    for (int p = 2; p < 256; p++) x.alloc(15, 0);
    due("FREE pages", x.count(1), 0);
    got("a full heap with an empty slot", x.alloc(1, 0), 18);
    none("but none for another CLASS", x.alloc(2, 0), 1);
    for (int i = 2; i < 8; i++) due("the last slots", x.alloc(1, 0), 16 + 2 * i);
    none("a full heap with a full SLAB", x.alloc(1, 0), 1);
    x.free(4080);
    got("the only FREE page, the last of all", x.alloc(2, 0), 4080);
    due("its empty slots", x.count(3), 4);
    got("the last SLAB of all", x.alloc(2, 0), 4083);
  }

  private static void takesAnOrder() {
    sentence("of the free EXTENTS of the least ORDER that is as great, the one of the least page: its first pages");
    for (int p = 1; p <= 16; p++) x.alloc(15, 0);
    for (int p = 4; p <= 7; p++) x.free(16 * p);
    x.free(16 * 10);
    x.free(16 * 12);
    x.free(16 * 13);
    x.free(16 * 14);
    due("ORDER 0 is page 10, though ORDER 2 is at page 4", x.alloc(15, 0), 160);
    due("then page 14, though ORDER 1 is at page 12", x.alloc(15, 0), 224);
    due("then page 17", x.alloc(15, 0), 272);
    due("then the first half of ORDER 1", x.alloc(15, 0), 192);
    due("then its other half", x.alloc(15, 0), 208);
    due("ORDER 1 is at page 18, though ORDER 2 is at page 4", x.alloc(31, 0), 288);
    due("then the first half of ORDER 2", x.alloc(31, 0), 64);
    due("of its other half the first page", x.alloc(8, 0), 96);
    fresh();
    for (int p = 1; p <= 6; p++) x.alloc(15, 0);
    x.free(80);
    x.free(48);
    x.free(16);
    due("of the same ORDER the least page", x.alloc(15, 0), 16);
    due("then the next", x.alloc(15, 0), 48);
    due("then the last", x.alloc(15, 0), 80);
  }

  private static void allocWrites() {
    sentence("The HEAD is written, then all its words become 0");
    for (int w = 16; w < 64; w++) x.scribble(w, w);
    x.fence();
    due("across a LINE's edge", x.alloc(10, 10), 16);
    due("its HEAD", x.word(16, false), headOf(16, 10, 10));
    due("its first word", x.word(17, false), 0);
    due("its last word", x.word(26, false), 0);
    due("the word behind it", x.word(27, false), 27);
    lines(2, 3);
    x.fence();
    due("within a LINE", x.alloc(4, 0), 32);
    due("its last word", x.word(36, false), 0);
    due("the rest of its slot", x.word(37, false), 37);
    lines(4);
    due("a slot across a LINE's edge", x.alloc(4, 0), 38);
    lines(4, 5);
    x.fence();
    due("up to a LINE's last word", x.alloc(7, 0), 48);
    lines(6);
    x.fence();
    due("over many LINES", x.alloc(32, 0), 64);
    lines(8, 9, 10, 11, 12);
  }

  private static void freeWrites() {
    sentence("A BLOCK that is freed has 0 written into its HEAD");
    x.alloc(20, 1);
    x.put(32, 1, 5);
    x.put(32, 19, 6);
    x.fence();
    due("free", x.free(32), 21);
    due("its HEAD", x.word(32, false), 0);
    due("its words stay", x.word(34, false), 5);
    due("its last word stays", x.word(52, false), 6);
    lines(4);
    due("not KEPT", x.word(32, true), headOf(32, 20, 1));
    x.alloc(20, 0);
    x.fence();
    x.collect();
    due("by collect()", x.word(32, false), 0);
    lines(4);

    sentence("a SLAB without BLOCKS is FREE again");
    x.alloc(1, 0);
    x.alloc(1, 0);
    x.free(16);
    due("one BLOCK is left", x.page(1, 0), 1);
    due("SLABS", x.count(2), 1);
    x.free(18);
    due("none is left", x.page(1, 0), 0);
    due("SLABS", x.count(2), 0);
    due("empty slots", x.count(3), 0);
    freeByOrders(1, 1, 1, 1, 1, 1, 1, 1, 0);
    due("another CLASS may have it", x.alloc(2, 0), 16);
    x.collect();
    due("by collect()", x.page(1, 0), 0);
    due("an EXTENT may have it", x.alloc(15, 0), 16);
  }

  private static void waiting() {
    sentence("What is written goes to the word at once, but is not KEPT yet");
    x.alloc(2, 1);
    due("by alloc()", x.word(16, false), headOf(16, 2, 1));
    due("not KEPT", x.word(16, true), 0);
    x.fence();
    due("KEPT", x.word(16, true), headOf(16, 2, 1));
    x.put(16, 1, 3);
    x.refer(16, 0, 16);
    x.root(0, 16);
    x.scribble(4095, 4);
    int[] written = {18, 17, 1, 4095};
    int[] values = {3, 16, 16, 4};
    for (int i = 0; i < 4; i++) {
      due("word " + written[i], x.word(written[i], false), values[i]);
      due("word " + written[i] + ", KEPT", x.word(written[i], true), 0);
    }
    x.fence();
    for (int i = 0; i < 4; i++) due("word " + written[i] + ", KEPT", x.word(written[i], true), values[i]);

    sentence("its LINE waits (in the order in which LINES were first written since the latest fence())");
    lines();
    x.scribble(100, 1);
    x.scribble(20, 2);
    x.scribble(101, 3);
    lines(12, 2);
    x.fence();
    lines();
    x.scribble(20, 2);
    x.scribble(100, 0);
    lines(2, 12);
    x.crash(0);
    lines();
    x.scribble(100, 0);
    lines(12);
    fresh();
    fillWithExtents();
    x.root(7, 16);
    x.root(0, 16);
    due("all LINES wait", x.count(4), 512);
    due("the first", x.waits(0), 256);
    due("the last", x.waits(511), 0);
    due("the one ahead", x.waits(510), 1);
    due("no more", x.waits(512), NONE);
    x.root(1, 16);
    due("no LINE waits twice", x.count(4), 512);

    sentence("fence() keeps all of them");
    fillWithExtents();
    x.put(16, 14, 5);
    x.put(2048, 2046, 6);
    x.root(7, 16);
    x.root(0, 2048);
    due("fence()", x.fence(), 512);
    due("crash(0)", x.crash(0), 2);
    due("the last word", x.get(2048, 2046), 6);
    due("page 1's last word", x.get(16, 14), 5);
    due("again", x.fence(), 0);
  }

  // ---------------------------------------------------------------- Terms III

  private static void masks() {
    sentence("the k-th (from 0 on) is KEPT as it is if bit k mod 32 of the mask is 1");
    int[] masks = {0, -1, 1, 2, 1 << 30, MIN, MAX, ~1};
    for (int mask : masks) {
      fresh();
      for (int k = 0; k < 66; k++) x.scribble(16 + 8 * k + k % 8, 1000 + k);
      x.crash(mask);
      for (int k = 0; k < 66; k++) {
        boolean keeps = (mask >> k % 32 & 1) != 0;
        due("LINE " + k + " by mask " + mask, x.word(16 + 8 * k + k % 8, false), keeps ? 1000 + k : 0);
      }
    }
    fresh();
    for (int k = 0; k < 20; k++) x.scribble(16 + 8 * (20 - k) + 7, 1000 + k);
    x.crash(1 << 5);
    for (int k = 0; k < 20; k++) {
      due("from the end on, LINE " + k, x.word(16 + 8 * (20 - k) + 7, true), k == 5 ? 1005 : 0);
    }
    fresh();
    fillWithExtents();
    x.root(7, 16);
    x.root(0, 16);
    due("the 511-th by bit 31, the 510-th not", x.crash(MIN), 0);
    due("the root was KEPT", x.word(1, true), 16);
    due("the other was not", x.word(8, true), 0);
    due("CLEARED: the HEAD was not KEPT", x.count(5), 1);

    sentence("all words become what was KEPT (ahead, or so); nothing waits");
    x.scribble(16, 1);
    x.scribble(24, 2);
    x.scribble(32, 3);
    x.fence();
    x.scribble(16, 4);
    x.scribble(23, 5);
    x.scribble(24, 6);
    x.scribble(31, 7);
    x.crash(2);
    int[] where = {16, 23, 24, 31, 32};
    int[] wants = {1, 0, 6, 7, 3};
    for (int i = 0; i < 5; i++) {
      due("word(" + where[i] + ", false)", x.word(where[i], false), wants[i]);
      due("word(" + where[i] + ", true)", x.word(where[i], true), wants[i]);
    }
    lines();
    x.crash(0);
    due("what a crash kept stays", x.word(24, false), 6);
    fresh();
    due("a crash without anything", x.crash(-1), 0);
    lines();
  }

  private static void recoveryStart() {
    sentence("no BLOCK is live, all but page 0 is FREE");
    x.alloc(3, 1);
    x.alloc(100, 1);
    x.refer(16, 0, 128);
    x.refer(128, 0, 16);
    due("no ROOT", x.crash(-1), 0);
    blocks();
    freeByOrders(1, 1, 1, 1, 1, 1, 1, 1, 0);
    due("FREE pages", x.count(1), 255);
    due("SLABS", x.count(2), 0);
    due("empty slots", x.count(3), 0);
    due("a HEAD alone stays", x.word(16, false), headOf(16, 3, 1));
    due("but is no BLOCK", x.block(16, 0), NONE);
    due("its place is free", x.alloc(1, 0), 16);
    x.root(7, 16);
    due("only what a ROOT leads to", x.crash(-1), 1);
    due("its page", x.page(1, 1), 2);
    due("empty slots", x.count(3), 7);
    due("the next slot of its page", x.alloc(1, 0), 18);
    due("the next page", x.alloc(15, 0), 32);

    sentence("Then the ROOTS in order");
    for (int i = 0; i < 5; i++) x.alloc(1, 0);
    x.root(7, 24);
    x.fence();
    x.root(7, 0);
    x.collect();
    due("a CLASS of 4 in the page that had one of 2", x.alloc(3, 0), 16);
    x.root(0, 16);
    lines(1, 2, 3, 0);
    due("ROOT 0 is ahead of ROOT 7", x.crash(8 + 2), 1);
    blocks(16);
    due("ROOT 7 leads to a SLAB of another CLASS", x.rootOf(7), 0);
    fresh();
    for (int i = 0; i < 5; i++) x.alloc(1, 0);
    x.root(0, 24);
    x.fence();
    x.root(0, 0);
    x.collect();
    due("the same, the other way round", x.alloc(3, 0), 16);
    x.root(7, 16);
    lines(0, 2, 3, 1);
    due("ROOT 0 is ahead of ROOT 7", x.crash(8 + 2), 1);
    blocks(24);
    due("ROOT 7", x.rootOf(7), 0);
  }

  private static void recoveryOrder() {
    sentence("of each BLOCK that became live, in the order in which they did, its REFERENCES in order");
    scrawlHead(128, 1, 1);
    x.scribble(129, 64);
    scrawlHead(64, 40, 0);
    scrawlHead(96, 1, 0);
    int planted = crashInto(128, 96);
    blocks(planted, 96, 128);
    due("the BLOCK's own REFERENCES are ahead of those of what they lead to", x.get(128, 0), 0);
    fresh();
    scrawlHead(48, 1, 0);
    scrawlHead(32, 31, 0);
    crashInto(48, 32);
    blocks(16, 48);
    fresh();
    scrawlHead(48, 1, 0);
    scrawlHead(32, 31, 0);
    crashInto(32, 48);
    blocks(16, 32);
    fresh();
    scrawlHead(160, 1, 1);
    x.scribble(161, 48);
    scrawlHead(128, 1, 1);
    x.scribble(129, 32);
    scrawlHead(48, 1, 0);
    scrawlHead(32, 31, 0);
    crashInto(160, 128);
    blocks(16, 48, 128, 160);
    due("the order is not that of addresses", x.get(128, 0), 0);
    fresh();
    for (int p = 1; p <= 5; p++) x.alloc(15, 0);
    x.root(7, x.alloc(1, 0));
    for (int p = 1; p <= 5; p++) x.free(16 * p);
    scrawlHead(64, 40, 0);
    crashInto(64);
    blocks(16, 96);
    due("all ROOTS are ahead of all REFERENCES", strayAt(16, 0), 0);
    due("the last ROOT", x.rootOf(7), 96);

    sentence("are looked at: 0 stays");
    x.alloc(15, 15);
    x.root(3, 16);
    due("crash", x.crash(-1), 1);
    due("CLEARED", x.count(5), 0);
    lines();

    sentence("the address of a BLOCK that is live already stays");
    x.alloc(3, 3);
    x.alloc(3, 3);
    x.root(0, 16);
    x.root(7, 16);
    x.refer(16, 0, 16);
    x.refer(16, 1, 20);
    x.refer(16, 2, 20);
    x.refer(20, 0, 16);
    x.refer(20, 2, 20);
    due("crash", x.crash(-1), 2);
    due("CLEARED", x.count(5), 0);
    due("what leads to the one", x.block(16, 4), 4);
    due("what leads to the other", x.block(20, 4), 3);
    lines();
  }

  private static void recoveryAddresses() {
    sentence("else, if it is 16 .. 4,095");
    scrawlHead(4095, 1, 0);
    scrawlHead(4094, 1, 0);
    scrawlHead(32, 1, 0);
    int planted = crashInto(15, 1, 4096, 4096 + 32, -32, MIN + 32, MAX, 4094);
    due("its own", planted, 16);
    blocks(16, 4094);
    due("CLEARED", x.count(5), 7);
    due("4094 stays", strayAt(16, 7), 4094);
    fresh();
    due("a BLOCK at the first address of all", x.alloc(1, 0), 16);
    x.root(1, 16);
    scrawlHead(4095, 1, 0);
    crashInto(4095, 16);
    blocks(16, 32);
    due("no slot begins at the last word", strayAt(32, 0), 0);
    due("the first address stays", strayAt(32, 1), 16);
  }

  private static void recoveryHeads() {
    sentence("a HEAD stands there (CHECK, SIZE and REFS right)");
    scrawlHead(32, 1, 0);
    x.scribble(34, headOf(34, 1, 0) + 4194304);
    x.scribble(36, headOf(36, 1, 0) - 4194304);
    x.scribble(38, headOf(38, 1, 0) ^ MIN);
    x.scribble(40, 2048);
    x.scribble(42, headOf(44, 1, 0));
    scrawlHead(44, 0, 0);
    scrawlHead(46, 1, 2);
    crashInto(32, 34, 36, 38, 40, 42, 44, 46);
    blocks(16, 32);
    due("CLEARED", x.count(5), 7);
    fresh();
    scrawlHead(32, 1, 1);
    scrawlHead(48, 7, 7);
    scrawlHead(2048, 2047, 2047);
    scrawlHead(162, 1, 0);
    due("with CHECK 512", x.word(162, false), MIN + 2048);
    x.scribble(4095, 32);
    crashInto(32, 48, 2048, 162, 64);
    blocks(16, 32, 48, 162, 2048);
    due("REFS as great as SIZE", x.block(32, 1), 1);
    due("the greatest SIZE", x.block(2048, 0), 2047);
    due("its last REFERENCE", x.get(2048, 2046), 32);
    due("a 0 is no HEAD", strayAt(16, 4), 0);
    due("CLEARED", x.count(5), 1);
    fresh();
    scrawlHead(64, 0, 0);
    scrawlHead(80, 0, 1);
    scrawlHead(96, 20, 21);
    // CHECK is 1 for SIZE 10 at 160: the word without it is the least that could be taken for a HEAD.
    x.scribble(160, 10 * 2048);
    crashInto(64, 80, 96, 160);
    due("SIZE 0, with REFS and without; REFS beyond SIZE; no CHECK", x.count(5), 4);
    blocks(16);
    fresh();
    scrawlHead(160, 10, 0);
    crashInto(160);
    blocks(16, 160);
  }

  private static void recoveryPlaces() {
    sentence("SMALL: its slot begins there");
    int[] slots = {8, 5, 4, 2, 2};
    for (int c = 0; c < CLASSES.length; c++) {
      for (int half = 0; half < 2; half++) {
        fresh();
        int[] strays = new int[8];
        for (int i = 0; i < 8; i++) strays[i] = 32 + 8 * half + i;
        for (int a : strays) scrawlHead(a, CLASSES[c] - 1, 0);
        crashInto(strays);
        for (int i = 0; i < 8; i++) {
          int offset = 8 * half + i;
          boolean begins = offset % CLASSES[c] == 0 && offset / CLASSES[c] < slots[c];
          due("offset " + offset + " of CLASS " + CLASSES[c], strayAt(16, i), begins ? 32 + offset : 0);
        }
      }
    }

    sentence("and the page is FREE or a SLAB of its CLASS");
    scrawlHead(32, 2, 0);
    scrawlHead(35, 1, 0);
    scrawlHead(36, 1, 0);
    scrawlHead(38, 2, 0);
    scrawlHead(40, 3, 0);
    scrawlHead(44, 2, 0);
    crashInto(32, 36, 38, 40, 44, 35);
    blocks(16, 32, 38, 44);
    due("CLEARED", x.count(5), 3);
    due("the SLAB's CLASS", x.page(2, 1), 3);
    fresh();
    scrawlHead(26, 1, 0);
    scrawlHead(64, 8, 0);
    scrawlHead(74, 1, 0);
    scrawlHead(96, 16, 0);
    scrawlHead(114, 1, 0);
    scrawlHead(126, 1, 0);
    crashInto(64, 74, 96, 114, 126, 30);
    blocks(16, 64, 96);
    due("no SLAB in an EXTENT's page, first or other", x.count(5), 4);
  }

  private static void recoveryExtents() {
    sentence("an EXTENT: it begins at a page that fits");
    scrawlHead(33, 8, 0);
    scrawlHead(40, 8, 0);
    scrawlHead(48, 16, 0);
    scrawlHead(64, 16, 0);
    scrawlHead(96, 32, 0);
    scrawlHead(128, 63, 0);
    scrawlHead(80, 15, 0);
    scrawlHead(112, 8, 0);
    crashInto(33, 40, 48, 64, 96, 128, 112);
    blocks(16, 64, 112, 128);
    due("CLEARED", x.count(5), 4);
    fresh();
    scrawlHead(1024, 1024, 0);
    scrawlHead(4080, 16, 0);
    scrawlHead(3072, 1024, 0);
    scrawlHead(4064, 31, 0);
    crashInto(1024, 4080, 3072, 4064);
    blocks(16, 4064);
    due("CLEARED", x.count(5), 3);

    sentence("and all its pages (within the heap) are FREE");
    scrawlHead(32, 31, 0);
    scrawlHead(63, 1, 0);
    scrawlHead(64, 63, 0);
    scrawlHead(126, 1, 0);
    scrawlHead(256, 127, 0);
    scrawlHead(368, 15, 0);
    scrawlHead(2048, 2047, 0);
    scrawlHead(4094, 1, 0);
    crashInto(126, 64, 368, 256, 4094, 2048, 32);
    blocks(16, 32, 126, 368, 4094);
    due("a SLAB or an EXTENT in its last page", x.count(5), 3);
    fresh();
    scrawlHead(64, 63, 0);
    scrawlHead(84, 3, 0);
    scrawlHead(128, 63, 0);
    scrawlHead(160, 15, 0);
    scrawlHead(192, 63, 0);
    scrawlHead(194, 1, 0);
    crashInto(84, 64, 160, 128, 194, 192);
    blocks(16, 84, 160, 194);
    due("a SLAB or an EXTENT in its second, third or first page", x.count(5), 3);
    fresh();
    scrawlHead(64, 63, 0);
    scrawlHead(96, 31, 0);
    scrawlHead(4080, 15, 0);
    scrawlHead(2048, 1023, 0);
    crashInto(64, 96, 4080, 2048);
    blocks(16, 64, 2048, 4080);
    due("an EXTENT within an EXTENT", strayAt(16, 1), 0);
    due("the heap's last page", x.page(255, 0), 2);
  }

  private static void recoveryClears() {
    sentence("Any other is CLEARED: 0 is written there");
    crashInto(0, 7, 0, 0, 0, 0, 0, 9);
    due("CLEARED", x.count(5), 2);
    due("the word", x.word(25, false), 0);
    due("the word as it was KEPT", x.word(25, true), 7);
    due("the last word", x.word(31, false), 0);
    due("the last word as it was KEPT", x.word(31, true), 9);
    lines(3);
    due("it is lost again", x.crash(0), 1);
    due("and CLEARED again", x.count(5), 2);
    due("it is KEPT", x.crash(1), 1);
    due("no more CLEARED", x.count(5), 0);
    due("KEPT", x.word(31, true), 0);
    lines();
    fresh();
    x.alloc(1, 0);
    x.root(7, 16);
    x.root(0, 16);
    x.crash(6);
    due("two ROOTS without their BLOCK", x.count(5), 2);
    due("ROOT 0", x.rootOf(0), 0);
    due("ROOT 7", x.rootOf(7), 0);
    lines(0, 1);
  }

  // ---------------------------------------------------------------- Terms IV

  private static void troubles() {
    sentence("TROUBLE of the latest call that may be refused: 0 it wasn't");
    due("ahead of any call", x.trouble(), 0);
    none("a refusal", x.alloc(0, 0), 3);
    due("asking again", x.trouble(), 3);
    got("alloc", x.alloc(2, 1), 16);
    none("a refusal", x.free(17), 2);
    yes("put", x.put(16, 1, 0));
    none("a refusal", x.free(17), 2);
    yes("refer", x.refer(16, 0, 0));
    none("a refusal", x.free(17), 2);
    yes("root", x.root(0, 0));
    none("a refusal", x.free(17), 2);
    yes("scribble", x.scribble(19, 0));
    none("a refusal", x.free(17), 2);
    got("free", x.free(16), 3);

    sentence("1 no room");
    fillWithExtents();
    none("not a page", x.alloc(15, 0), 1);
    none("not a slot", x.alloc(1, 0), 1);
    x.free(16);
    none("not two pages", x.alloc(16, 0), 1);
    got("a page", x.alloc(15, 0), 16);

    sentence("2 no live BLOCK (ROOT, word) such");
    x.alloc(2, 1);
    none("no BLOCK", x.free(32), 2);
    no("no ROOT", x.root(8, 16), 2);
    no("no word", x.put(16, 2, 0), 2);
    no("a BLOCK's word", x.scribble(18, 0), 2);

    sentence("3 a number");
    none("SIZE", x.alloc(2048, 0), 3);
    none("REFS", x.alloc(1, 2), 3);
    no("a word of page 0", x.scribble(15, 0), 3);

    sentence("4 something refers to it");
    x.alloc(1, 1);
    x.root(0, 16);
    none("a ROOT", x.free(16), 4);
    due("it is live yet", x.block(16, 0), 1);
    due("its HEAD stays", x.word(16, false), headOf(16, 1, 1));

    sentence("`NONE = -1`: There is none; refused");
    due("NONE", SlabHeap.NONE, -1);
  }

  // ---------------------------------------------------------------- Promises

  private static void allocRefusals() {
    sentence("All words are 0 and kept; no BLOCK is live");
    lines();
    blocks();
    due("fence()", x.fence(), 0);
    due("crash(-1)", x.crash(-1), 0);
    due("collect()", x.collect(), 0);

    sentence("NONE: 3 if SIZE isn't 1 .. 2,047");
    int[] sizes = {0, -1, 2048, 2049, 4096, MIN, MAX};
    for (int size : sizes) none("alloc(" + size + ", 0)", x.alloc(size, 0), 3);
    lines();
    blocks();
    got("1", x.alloc(1, 0), 16);
    got("2047", x.alloc(2047, 0), 2048);

    sentence("or REFS isn't 0 .. SIZE");
    int[][] refs = {{1, 2}, {1, -1}, {5, 6}, {2047, 2048}, {5, MIN}, {5, MAX}};
    for (int[] s : refs) none("alloc(" + s[0] + ", " + s[1] + ")", x.alloc(s[0], s[1]), 3);
    lines();
    got("0", x.alloc(5, 0), 16);
    got("SIZE", x.alloc(5, 5), 22);

    sentence("REFS isn't 0 .. SIZE, else 1");
    fillWithExtents();
    x.fence();
    none("no room", x.alloc(1, 0), 1);
    none("no room", x.alloc(2047, 2047), 1);
    none("3 is ahead of 1", x.alloc(2048, 0), 3);
    none("3 is ahead of 1", x.alloc(1, 2), 3);
    lines();
    due("what is refused changes nothing", x.count(0), 8);
    fresh();
    due("page 128", x.alloc(1024, 0), 2048);
    due("FREE pages", x.count(1), 127);
    none("127 FREE pages are not 128", x.alloc(1024, 0), 1);
    got("but 64 of them", x.alloc(1023, 0), 1024);
  }

  private static void frees() {
    sentence("A live BLOCK is freed: how many words it had (with its HEAD)");
    x.alloc(1, 1);
    x.alloc(2047, 0);
    x.alloc(4, 0);
    x.alloc(32, 0);
    got("the least", x.free(16), 2);
    got("the greatest", x.free(2048), 2048);
    got("a slot that is not full", x.free(32), 5);
    got("an EXTENT that is not full", x.free(64), 33);
    due("FREE pages", x.count(1), 255);
    freeByOrders(1, 1, 1, 1, 1, 1, 1, 1, 0);

    sentence("NONE: 2, else 4 if a ROOT or a REFERENCE of a live BLOCK (its own, too) leads to it");
    int[] never = {0, 1, 15, 16, 4095, 4096, -1, -16, MIN, MAX};
    for (int address : never) none("free(" + address + ")", x.free(address), 2);
    x.alloc(31, 31);
    x.alloc(1, 1);
    none("a BLOCK's word", x.free(33), 2);
    none("an EXTENT's other page", x.free(48), 2);
    none("an empty slot", x.free(18), 2);
    none("a word between slots", x.free(17), 2);
    x.root(0, 32);
    none("the first ROOT", x.free(32), 4);
    x.root(0, 0);
    x.root(7, 32);
    none("the last ROOT", x.free(32), 4);
    x.root(7, 0);
    x.refer(16, 0, 32);
    none("another's REFERENCE", x.free(32), 4);
    x.refer(16, 0, 0);
    x.refer(32, 30, 32);
    none("its own last REFERENCE", x.free(32), 4);
    due("what is refused changes nothing", x.block(32, 0), 31);
    x.refer(32, 30, 0);
    x.refer(32, 0, 16);
    got("nothing leads to it", x.free(32), 32);
    none("twice", x.free(32), 2);
    got("only a dead BLOCK led to it", x.free(16), 2);
    x.alloc(2, 0);
    x.put(16, 0, 16);
    x.scribble(19, 16);
    got("words that are no REFERENCES", x.free(16), 3);
  }

  private static void puts() {
    sentence("Word i of a live BLOCK that is no REFERENCE becomes v: true");
    x.alloc(15, 7);
    x.fence();
    yes("the first that is none", x.put(16, 7, MIN));
    due("it", x.word(24, false), MIN);
    yes("the last", x.put(16, 14, MAX));
    due("it", x.word(31, false), MAX);
    lines(3);
    x.fence();
    yes("the same again", x.put(16, 14, MAX));
    lines(3);

    sentence("false: 2 (also if i is a REFERENCE, or no word of it)");
    x.alloc(3, 2);
    x.alloc(3, 0);
    x.fence();
    no("the last REFERENCE", x.put(16, 1, 1), 2);
    no("the first REFERENCE", x.put(16, 0, 1), 2);
    no("the HEAD", x.put(16, -1, 1), 2);
    no("behind the last word", x.put(16, 3, 1), 2);
    no("ahead of another's words", x.put(20, -1, 1), 2);
    no("far", x.put(16, MIN, 1), 2);
    no("far", x.put(16, MAX, 1), 2);
    int[] none = {0, 1, 15, 17, 24, 32, 4080, 4095, 4096, -1, MIN, MAX};
    for (int address : none) no("put(" + address + ", 0, 1)", x.put(address, 0, 1), 2);
    lines();
    due("the HEAD", x.word(16, false), headOf(16, 3, 2));
    due("the other's HEAD", x.word(20, false), headOf(20, 3, 0));
    x.free(20);
    no("a freed BLOCK", x.put(20, 0, 1), 2);
  }

  private static void refers() {
    sentence("REFERENCE i of a live BLOCK becomes another live BLOCK's address, or 0: true");
    x.alloc(15, 15);
    x.alloc(2047, 0);
    x.fence();
    yes("the first", x.refer(16, 0, 2048));
    yes("the last", x.refer(16, 14, 2048));
    due("the first", x.word(17, false), 2048);
    due("the last", x.word(31, false), 2048);
    lines(2, 3);
    x.fence();
    yes("0", x.refer(16, 14, 0));
    due("the last", x.get(16, 14), 0);
    lines(3);

    sentence("becomes another live BLOCK's address, or 0: true; false: 2");
    x.alloc(3, 2);
    x.alloc(3, 0);
    x.alloc(20, 0);
    x.refer(16, 0, 20);
    x.fence();
    no("the HEAD", x.refer(16, -1, 20), 2);
    no("behind the last REFERENCE", x.refer(16, 2, 20), 2);
    no("behind the last word", x.refer(16, 3, 20), 2);
    no("far", x.refer(16, MIN, 0), 2);
    no("far", x.refer(16, MAX, 0), 2);
    no("a BLOCK without REFERENCES", x.refer(20, 0, 0), 2);
    int[] none = {1, 15, 17, 24, 33, 48, 4080, 4095, 4096, -1, MIN, MAX};
    for (int address : none) {
      no("to " + address, x.refer(16, 0, address), 2);
      no("of " + address, x.refer(address, 0, 0), 2);
    }
    no("of 0", x.refer(0, 0, 0), 2);
    due("what is refused changes nothing", x.get(16, 0), 20);
    lines();
    x.refer(16, 0, 0);
    x.free(20);
    no("to a freed BLOCK", x.refer(16, 0, 20), 2);
  }

  private static void gets() {
    sentence("Word i of a live BLOCK; 0 if there is none such");
    x.alloc(3, 1);
    x.alloc(3, 0);
    x.refer(16, 0, 20);
    x.put(16, 2, -9);
    x.put(20, 0, 7);
    due("the first, a REFERENCE", x.get(16, 0), 20);
    due("the last", x.get(16, 2), -9);
    due("the HEAD", x.get(16, -1), 0);
    due("behind the last", x.get(16, 3), 0);
    due("another's word", x.get(16, 4), 0);
    due("far", x.get(16, MIN), 0);
    due("far", x.get(16, MAX), 0);
    int[] none = {0, 15, 17, 18, 24, 4095, 4096, -1, MIN, MAX};
    for (int address : none) {
      due("get(" + address + ", 0)", x.get(address, 0), 0);
      due("get(" + address + ", 1)", x.get(address, 1), 0);
    }
    x.free(16);
    due("a freed BLOCK's word", x.get(16, 2), 0);
    due("though it stands there", x.word(19, false), -9);
  }

  private static void roots() {
    sentence("ROOT i (0 .. 7) becomes a live BLOCK's address, or 0: true; false: 2");
    x.alloc(3, 0);
    x.alloc(20, 0);
    x.fence();
    yes("ROOT 7", x.root(7, 32));
    yes("ROOT 0", x.root(0, 16));
    lines(1, 0);
    x.fence();
    int[] roots = {-1, 8, 9, MIN, MAX};
    for (int i : roots) {
      no("root(" + i + ", 16)", x.root(i, 16), 2);
      no("root(" + i + ", 0)", x.root(i, 0), 2);
    }
    int[] none = {1, 15, 17, 20, 33, 48, 4080, 4095, 4096, -1, MIN, MAX};
    for (int to : none) no("root(0, " + to + ")", x.root(0, to), 2);
    lines();
    due("ROOT 0", x.rootOf(0), 16);
    yes("0", x.root(0, 0));
    due("ROOT 0", x.rootOf(0), 0);
    lines(0);
    x.free(16);
    no("a freed BLOCK", x.root(0, 16), 2);

    sentence("ROOT i; NONE if there is none such");
    x.alloc(1, 0);
    x.root(0, 16);
    x.root(7, 16);
    due("ROOT 0", x.rootOf(0), 16);
    due("ROOT 6", x.rootOf(6), 0);
    due("ROOT 7", x.rootOf(7), 16);
    for (int i : roots) due("rootOf(" + i + ")", x.rootOf(i), NONE);
  }

  private static void powerAndFences() {
    sentence("All that was written is KEPT: how many LINES waited");
    due("none", x.fence(), 0);
    x.scribble(4095, 1);
    due("one", x.fence(), 1);
    due("KEPT", x.word(4095, true), 1);
    due("none again", x.fence(), 0);
    x.alloc(0, 0);
    x.scribble(0, 1);
    due("a refused call writes nothing", x.fence(), 0);

    sentence("The power goes, and comes: how many BLOCKS are live then");
    due("none", x.crash(0), 0);
    int before = 0;
    for (int i = 0; i < 200; i++) {
      int address = x.alloc(1, 1);
      if (before == 0) x.root(7, address);
      else x.refer(before, 0, address);
      before = address;
    }
    due("a long chain", x.crash(-1), 200);
    due("CLEARED", x.count(5), 0);
    due("its end", x.live(199), before);
    due("lost", x.root(7, 0) ? x.crash(-1) : -2, 0);
  }

  private static void collects() {
    sentence("All live BLOCKS to which nothing leads from the ROOTS, by REFERENCES, are freed (by addresses): how many");
    due("an empty heap", x.collect(), 0);
    lines();
    x.alloc(40, 1);
    x.alloc(1, 1);
    x.alloc(8, 1);
    x.refer(64, 0, 16);
    x.refer(16, 0, 32);
    x.fence();
    due("all of them", x.collect(), 3);
    lines(2, 4, 8);
    due("an empty heap again", x.collect(), 0);
    x.alloc(2, 2);
    x.alloc(2, 2);
    x.alloc(2, 2);
    x.alloc(2, 1);
    x.root(7, 16);
    x.refer(16, 1, 19);
    x.refer(19, 0, 16);
    x.refer(22, 0, 22);
    x.refer(22, 1, 16);
    x.put(25, 1, 16);
    due("what leads to itself or to others only", x.collect(), 2);
    blocks(16, 19);
    due("none", x.collect(), 0);
    x.put(16, 0, 0);
    due("after a refusal", x.collect() == 0 ? x.trouble() : -2, 2);
    x.root(7, 0);
    due("what a ROOT led to once", x.collect(), 2);
    blocks();
    fresh();
    fillWithExtents();
    x.root(0, 16);
    due("all but one of a full heap", x.collect(), 7);
    due("FREE pages", x.count(1), 254);
    fresh();
    for (int p = 1; p < 256; p++) x.alloc(8, 0);
    x.root(3, 4080);
    due("all but the last page", x.collect(), 254);
    blocks(4080);
  }

  private static void collectsByReferences() {
    sentence("to which nothing leads from the ROOTS, by REFERENCES");
    x.alloc(3, 2);
    for (int i = 0; i < 3; i++) x.alloc(1, 0);
    x.root(0, 16);
    x.refer(16, 0, 32);
    x.refer(16, 1, 34);
    x.put(16, 2, 36);
    due("a word that is no REFERENCE", x.collect(), 1);
    blocks(16, 32, 34);
    x.refer(16, 1, 0);
    due("the last REFERENCE is gone", x.collect(), 1);
    blocks(16, 32);
    x.refer(16, 0, 0);
    due("the first REFERENCE is gone", x.collect(), 1);
    blocks(16);
    fresh();
    x.alloc(1, 1);
    x.alloc(1, 1);
    x.root(0, 16);
    x.refer(16, 0, 18);
    due("a crash finds both", x.crash(-1), 2);
    x.root(0, 0);
    due("what was found once", x.collect(), 2);
    fresh();
    x.root(0, x.alloc(2047, 2047));
    x.alloc(1, 1);
    x.alloc(1, 0);
    x.refer(2048, 2046, 16);
    x.refer(16, 0, 18);
    due("behind 2046 REFERENCES that are 0", x.collect(), 0);
    due("and after a crash", x.crash(-1), 3);
    fresh();
    int knot = x.alloc(7, 7);
    x.root(0, knot);
    for (int i = 0; i < 7; i++) x.refer(knot, i, knot);
    int before = x.alloc(1, 1);
    x.root(7, before);
    for (int i = 0; i < 50; i++) {
      int address = x.alloc(1, 1);
      x.refer(before, 0, address);
      before = address;
    }
    due("round and round", x.collect(), 0);
    due("all of them are live", x.count(0), 52);
  }

  private static void strayWords() {
    sentence("Any word of the heap as it is (0 .. 4,095), or as it was KEPT; 0 for others");
    x.alloc(1, 0);
    x.root(0, 16);
    x.scribble(4095, -5);
    x.fence();
    x.root(0, 0);
    x.scribble(4095, 6);
    due("as it is", x.word(1, false), 0);
    due("as it was KEPT", x.word(1, true), 16);
    due("the last as it is", x.word(4095, false), 6);
    due("the last as it was KEPT", x.word(4095, true), -5);
    int[] none = {-1, 4096, MIN, MAX};
    for (int w : none) {
      due("word(" + w + ", false)", x.word(w, false), 0);
      due("word(" + w + ", true)", x.word(w, true), 0);
    }

    sentence("Word w (16 .. 4,095) that belongs to no live BLOCK becomes v (as by a stray hand; it is written): true");
    yes("the first", x.scribble(16, MIN));
    yes("the last", x.scribble(4095, MAX));
    due("the first", x.word(16, false), MIN);
    due("the last", x.word(4095, false), MAX);
    lines(2, 511);
    x.fence();
    yes("0 over 0", x.scribble(17, 0));
    lines(2);
    x.alloc(4, 0);
    x.alloc(16, 0);
    yes("the rest of a slot", x.scribble(21, 1));
    yes("an empty slot", x.scribble(22, 1));
    yes("behind the last slot", x.scribble(28, 1));
    yes("behind an EXTENT's words", x.scribble(49, 1));
    yes("an EXTENT's last word", x.scribble(63, 1));

    sentence("false: 2 if a live BLOCK has it, 3 for others");
    x.alloc(4, 0);
    x.alloc(16, 0);
    x.alloc(4, 0);
    x.fence();
    int[] has = {16, 17, 20, 22, 26, 32, 33, 47, 48};
    for (int w : has) no("scribble(" + w + ", 1)", x.scribble(w, 1), 2);
    int[] others = {15, 1, 0, -1, 4096, MIN, MAX};
    for (int w : others) no("scribble(" + w + ", 1)", x.scribble(w, 1), 3);
    lines();
    due("word 15", x.word(15, false), 0);
    due("the HEAD", x.word(16, false), headOf(16, 4, 0));
    x.free(16);
    yes("a freed BLOCK's word", x.scribble(16, 1));
    no("the other BLOCK's yet", x.scribble(22, 1), 2);
  }

  private static void blockAnswers() {
    sentence("Of a live BLOCK, what 0 SIZE, 1 REFS, 2 its CLASS (0 of an EXTENT), 3 its ORDER (NONE of a SMALL one)");
    x.alloc(7, 7);
    x.alloc(8, 0);
    x.alloc(1, 0);
    x.alloc(2047, 2);
    int[] addresses = {16, 32, 48, 2048};
    int[][] wants = {{7, 7, 8, NONE}, {8, 0, 0, 0}, {1, 0, 2, NONE}, {2047, 2, 0, 7}};
    for (int i = 0; i < 4; i++) {
      for (int what = 0; what < 4; what++) {
        due("block(" + addresses[i] + ", " + what + ")", x.block(addresses[i], what), wants[i][what]);
      }
    }

    sentence("4 how many ROOTS and REFERENCES of live BLOCKS lead to it");
    x.alloc(15, 15);
    due("none", x.block(16, 4), 0);
    for (int i = 0; i < 8; i++) x.root(i, 16);
    for (int i = 0; i < 15; i++) x.refer(16, i, 16);
    due("all ROOTS and all its own", x.block(16, 4), 23);
    x.alloc(2, 1);
    x.put(32, 1, 16);
    due("a word that is no REFERENCE", x.block(16, 4), 23);
    x.refer(32, 0, 16);
    due("another's", x.block(16, 4), 24);
    x.free(32);
    due("a freed BLOCK's", x.block(16, 4), 23);
    fresh();
    x.alloc(1, 1);
    x.alloc(1, 1);
    x.refer(18, 0, 16);
    x.root(0, 16);
    blocks(16, 18);
    due("only the one has a ROOT", x.crash(-1), 1);
    due("the other's HEAD stands yet", x.word(18, false), headOf(18, 1, 1));
    due("so does its REFERENCE", x.word(19, false), 16);
    due("but it is not live", x.block(16, 4), 1);
    x.root(0, 0);
    due("nothing leads there", x.block(16, 4), 0);
    got("it can be freed", x.free(16), 2);

    sentence("4 how many ROOTS and REFERENCES of live BLOCKS lead to it. NONE if there is none such");
    x.alloc(2, 1);
    x.alloc(20, 0);
    int[] whats = {-1, 5, MIN, MAX};
    for (int what : whats) due("block(16, " + what + ")", x.block(16, what), NONE);
    int[] none = {0, 15, 17, 19, 33, 48, 4080, 4095, 4096, -1, MIN, MAX};
    for (int address : none) {
      for (int what = 0; what < 5; what++) due("block(" + address + ", " + what + ")", x.block(address, what), NONE);
    }
    x.free(16);
    due("a freed BLOCK", x.block(16, 0), NONE);

    sentence("The address of the i-th live BLOCK, by addresses; NONE");
    due("of none", x.live(0), NONE);
    x.alloc(20, 0);
    x.alloc(1, 0);
    x.alloc(1, 0);
    blocks(16, 18, 32);
    int[] numbers = {-1, 3, 4, MIN, MAX};
    for (int i : numbers) due("live(" + i + ")", x.live(i), NONE);
    for (int i = 0; i < 400; i++) x.alloc(1, 0);
    due("the last of many", x.live(402), 16 * 53 + 2);
    due("behind the last of many", x.live(403), NONE);
  }

  private static void pageIs(int p, int... wants) {
    for (int what = 0; what < 4; what++) due("page(" + p + ", " + what + ")", x.page(p, what), wants[what]);
  }

  private static void pageAnswers() {
    sentence("0 FREE, 1 a SLAB, 2 the first one of an EXTENT, 3 another one of it, 4 PAGE 0");
    x.alloc(2, 0);
    x.alloc(40, 0);
    x.alloc(2, 0);
    x.alloc(8, 0);
    int[] kinds = {4, 1, 2, 0, 2, 3, 3, 3, 0};
    for (int p = 0; p < kinds.length; p++) due("page(" + p + ", 0)", x.page(p, 0), kinds[p]);
    due("the last page", x.page(255, 0), 0);

    sentence("1: a SLAB's CLASS, the ORDER of an EXTENT, or of the free EXTENT that has it");
    x.alloc(2, 0);
    x.alloc(40, 0);
    int[] forms = {NONE, 3, 1, 1, 2, 2, 2, 2, 3};
    for (int p = 0; p < forms.length; p++) due("page(" + p + ", 1)", x.page(p, 1), forms[p]);
    due("the last page", x.page(255, 1), 7);
    x.alloc(15, 0);
    due("a page that is left alone", x.page(3, 1), 0);

    sentence("2: how many live BLOCKS it has (of a page that is another one of an EXTENT 0)");
    due("PAGE 0", x.page(0, 2), 0);
    due("a FREE page", x.page(1, 2), 0);
    for (int i = 1; i <= 8; i++) {
      x.alloc(1, 0);
      due("a SLAB", x.page(1, 2), i);
    }
    x.alloc(63, 0);
    due("the first one of an EXTENT", x.page(4, 2), 1);
    due("another one", x.page(5, 2), 0);
    due("its last one", x.page(7, 2), 0);
    x.free(16);
    due("a SLAB with one BLOCK less", x.page(1, 2), 7);

    sentence("3: the first page of the (free) EXTENT that has it (a SLAB's, PAGE 0's own)");
    x.alloc(1, 0);
    x.alloc(63, 0);
    int[] firsts = {0, 1, 2, 2, 4, 4, 4, 4, 8, 8};
    for (int p = 0; p < firsts.length; p++) due("page(" + p + ", 3)", x.page(p, 3), firsts[p]);
    due("the last page", x.page(255, 3), 128);
    due("page 127", x.page(127, 3), 64);

    sentence("NONE for others, and of what 1 for PAGE 0");
    pageIs(0, 4, NONE, 0, 0);
    pageIs(255, 0, 7, 0, 128);
    int[] whats = {-1, 4, MIN, MAX};
    for (int what : whats) {
      due("page(0, " + what + ")", x.page(0, what), NONE);
      due("page(1, " + what + ")", x.page(1, what), NONE);
    }
    int[] none = {-1, 256, MIN, MAX};
    for (int p : none) pageIs(p, NONE, NONE, NONE, NONE);
  }

  private static void extentAnswers() {
    int[] none = {-1, 9, 31, 32, 33, 64, MIN, MAX};

    sentence("How many free EXTENTS there are of an ORDER (0 .. 8); NONE for others");
    freeByOrders(1, 1, 1, 1, 1, 1, 1, 1, 0);
    for (int order : none) due("extents(" + order + ")", x.extents(order), NONE);
    for (int p = 1; p < 256; p++) x.alloc(15, 0);
    freeByOrders(0, 0, 0, 0, 0, 0, 0, 0, 0);
    for (int p = 1; p < 256; p += 2) x.free(16 * p);
    freeByOrders(128, 0, 0, 0, 0, 0, 0, 0, 0);
    fresh();
    due("the upper half", x.alloc(2047, 0), 2048);
    freeByOrders(1, 1, 1, 1, 1, 1, 1, 0, 0);

    sentence("The first page of the free EXTENT that an alloc() of an ORDER would halve or take");
    int[] nexts = {1, 2, 4, 8, 16, 32, 64, 128};
    for (int order = 0; order < 8; order++) due("next(" + order + ")", x.next(order), nexts[order]);
    x.alloc(15, 0);
    due("it would halve ORDER 1", x.next(0), 2);
    x.alloc(15, 0);
    due("it would take page 3", x.next(0), 3);
    due("and halve ORDER 2", x.next(1), 4);
    x.alloc(1023, 0);
    due("and halve ORDER 7", x.next(6), 128);
    due("next() takes nothing", x.next(6), 128);
    due("an alloc() does", x.alloc(1023, 0), 2048);

    sentence("NONE if it would be refused, or for others");
    due("ORDER 8", x.next(8), NONE);
    for (int order : none) due("next(" + order + ")", x.next(order), NONE);
    x.alloc(2047, 0);
    due("ORDER 7 is gone", x.next(7), NONE);
    due("ORDER 6 is not", x.next(6), 64);
    fresh();
    fillWithExtents();
    for (int order = 0; order <= 8; order++) due("in a full heap next(" + order + ")", x.next(order), NONE);
    x.free(16);
    due("a page", x.next(0), 1);
    due("no two pages", x.next(1), NONE);
    fresh();
    due("a slot", x.alloc(1, 0), 16);
    for (int p = 2; p < 256; p++) x.alloc(15, 0);
    due("an empty slot is no EXTENT", x.next(0), NONE);
  }

  private static void counts(int... wants) {
    for (int what = 0; what < 8; what++) due("count(" + what + ")", x.count(what), wants[what]);
  }

  private static void countAnswers() {
    sentence("0 live BLOCKS, 1 FREE pages, 2 SLABS, 3 empty slots of SLABS, 4 LINES that wait");
    counts(0, 255, 0, 0, 0, 0, 0, 0);
    x.alloc(2, 0);
    x.alloc(4, 0);
    x.alloc(20, 0);
    counts(3, 251, 2, 5, 5, 0, 29, 0);
    fresh();
    fillWithExtents();
    counts(8, 0, 0, 0, 510, 0, 4080, 0);
    fresh();
    for (int i = 0; i < 5; i++) x.alloc(2, 0);
    due("no empty slot in a full SLAB of 5", x.count(3), 0);
    x.alloc(2, 0);
    due("empty slots", x.count(3), 4);

    sentence("5 CLEARED by the latest crash() (0 ahead of any)");
    due("ahead of any", x.count(5), 0);
    crashInto(7, 8, 9);
    due("three", x.count(5), 3);
    x.free(x.alloc(1, 0));
    x.fence();
    x.collect();
    due("until the next crash", x.count(5), 3);
    x.crash(0);
    due("none then", x.count(5), 0);

    sentence("6 words of live BLOCKS (with HEADS), 7 crashes so far");
    due("of none", x.count(6), 0);
    x.alloc(1, 1);
    x.alloc(2047, 0);
    due("of two", x.count(6), 2 + 2048);
    x.free(16);
    due("of one", x.count(6), 2048);
    due("no crash", x.count(7), 0);
    x.crash(0);
    due("of none again", x.count(6), 0);
    due("one crash", x.count(7), 1);
    x.crash(-1);
    x.fence();
    x.collect();
    due("two crashes", x.count(7), 2);

    sentence("7 crashes so far. NONE for others");
    int[] none = {-1, 8, 9, MIN, MAX};
    for (int what : none) due("count(" + what + ")", x.count(what), NONE);
  }

  private static void headAnswers() {
    sentence("The HEAD that a BLOCK would have; 0 for an address not 16 .. 4,095");
    int[] none = {15, 0, -1, -16, 4096, 4097, MIN, MAX};
    for (int address : none) due("head(" + address + ", 1, 0)", x.head(address, 1, 0), 0);
    due("the first", x.head(16, 1, 0), 343934976);
    due("the last, though no BLOCK can be there", x.head(4095, 2047, 2047), 171966463);
    int address = x.alloc(5, 3);
    due("as alloc() writes it", x.word(address, false), x.head(address, 5, 3));

    sentence("or for a SIZE or REFS that alloc() would refuse");
    int[][] shapes = {{0, 0}, {-1, 0}, {2048, 0}, {MIN, 0}, {MAX, 0}, {1, 2}, {1, -1}, {2047, 2048}, {5, MIN}, {5, MAX}};
    for (int[] s : shapes) due("head(16, " + s[0] + ", " + s[1] + ")", x.head(16, s[0], s[1]), 0);
    due("the least", x.head(16, 1, 1), headOf(16, 1, 1));
    due("the greatest", x.head(16, 2047, 2047), headOf(16, 2047, 2047));
    fillWithExtents();
    due("a full heap refuses no number", x.head(16, 1, 0), headOf(16, 1, 0));
  }

  private static void lineAnswers() {
    sentence("The LINE (0 .. 511) that waits as the k-th; NONE");
    due("of none", x.waits(0), NONE);
    x.scribble(4095, 1);
    x.alloc(1, 0);
    x.root(0, 16);
    lines(511, 2, 0);
    int[] none = {-1, 3, 511, 512, MIN, MAX};
    for (int k : none) due("waits(" + k + ")", x.waits(k), NONE);
    x.fence();
    due("of none after fence()", x.waits(0), NONE);
    x.scribble(4095, 1);
    x.crash(0);
    due("of none after crash()", x.waits(0), NONE);
  }

  private static void askingCalls() {
    sentence("`int trouble()`: TROUBLE");
    x.alloc(1, 1);
    x.root(0, 16);
    none("a refusal", x.free(16), 4);
    x.get(3, 3);
    x.rootOf(9);
    x.word(-1, true);
    x.block(3, 3);
    x.live(-1);
    x.page(-1, 0);
    x.extents(9);
    x.next(9);
    x.count(9);
    x.head(0, 0, 0);
    x.waits(-1);
    due("what only asks leaves it", x.trouble(), 4);
    x.fence();
    x.collect();
    x.crash(0);
    due("what can't be refused leaves it", x.trouble(), 4);
  }

  public static void main(String[] args) throws IOException {
    document = Files.readString(DOCUMENT);
    words();
    pageZero();
    shapes();
    headWords();
    small();
    extentShapes();
    freePages();
    smallOnes();
    takesAnOrder();
    allocWrites();
    freeWrites();
    waiting();
    masks();
    recoveryStart();
    recoveryOrder();
    recoveryAddresses();
    recoveryHeads();
    recoveryPlaces();
    recoveryExtents();
    recoveryClears();
    troubles();
    allocRefusals();
    frees();
    puts();
    refers();
    gets();
    roots();
    powerAndFences();
    collects();
    collectsByReferences();
    strayWords();
    blockAnswers();
    pageAnswers();
    extentAnswers();
    countAnswers();
    headAnswers();
    lineAnswers();
    askingCalls();
    System.out.println(sentences + " sentences: " + (wrong == 0 ? "all answers are as due" : wrong + " answers are not as due"));
    if (wrong != 0) System.exit(1);
  }
}
