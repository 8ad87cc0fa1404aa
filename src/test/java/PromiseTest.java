/** Each promise with ordinary inputs, the edges that the document names, and wrong inputs. */
public final class PromiseTest {
  private static final int MIN = Integer.MIN_VALUE;
  private static final int MAX = Integer.MAX_VALUE;
  private static int wrong = 0;
  private static int promise = 0;
  private static SlabHeap x = new SlabHeap();

  private static void fresh(int number) {
    promise = number;
    x = new SlabHeap();
  }

  private static void due(String what, long got, long want) {
    if (got != want) {
      wrong++;
      System.out.println("promise " + promise + ": " + what + " answered " + got + ", due is " + want);
    }
  }

  private static void due(String what, boolean got, boolean want) {
    due(what, got ? 1 : 0, want ? 1 : 0);
  }

  private static void refused(String what, int got, int trouble) {
    due(what, got, SlabHeap.NONE);
    due("trouble after " + what, x.trouble(), trouble);
  }

  private static void refused(String what, boolean got, int trouble) {
    due(what, got, false);
    due("trouble after " + what, x.trouble(), trouble);
  }

  private static void done(String what, boolean got) {
    due(what, got, true);
    due("trouble after " + what, x.trouble(), 0);
  }

  private static void dueWaits(int... lines) {
    due("count(4)", x.count(4), lines.length);
    for (int k = 0; k < lines.length; k++) {
      due("waits(" + k + ")", x.waits(k), lines[k]);
    }
    due("waits at the end", x.waits(lines.length), -1);
  }

  private static void dueLive(int... addresses) {
    due("count(0)", x.count(0), addresses.length);
    for (int k = 0; k < addresses.length; k++) {
      due("live(" + k + ")", x.live(k), addresses[k]);
    }
    due("live at the end", x.live(addresses.length), -1);
  }

  private static void newObject() {
    fresh(1);
    int sum = 0;
    for (int w = 0; w < 4096; w += 17) {
      sum |= x.word(w, false) | x.word(w, true);
    }
    due("all words", sum, 0);
    dueLive();
    dueWaits();
    due("trouble()", x.trouble(), 0);
    due("count(1)", x.count(1), 255);
    due("crash(-1)", x.crash(-1), 0);
    SlabHeap other = new SlabHeap();
    x.alloc(1, 0);
    due("another object's blocks", other.count(0), 0);
  }

  private static void allocNumbers() {
    fresh(2);
    int[][] bad = {{0, 0}, {-1, 0}, {2048, 0}, {MAX, 0}, {MIN, 0}, {5, 6}, {5, -1}, {5, MAX}, {5, MIN}, {0, 1}};
    for (int[] b : bad) {
      refused("alloc(" + b[0] + ", " + b[1] + ")", x.alloc(b[0], b[1]), 3);
    }
    dueWaits();
    due("the greatest", x.alloc(2047, 2047), 2048);
    due("trouble()", x.trouble(), 0);
    refused("a second of them", x.alloc(2047, 0), 1);
    refused("a number goes ahead of room", x.alloc(2047, 2048), 3);
  }

  private static void allocSlots() {
    fresh(2);
    int[] wants = {16, 19, 22, 25, 28, 32};
    for (int want : wants) {
      due("class 3", x.alloc(2, 0), want);
    }
    due("class 6", x.alloc(5, 0), 48);
    due("class 6, of five words", x.alloc(4, 0), 54);
    due("class 6, its slab is full", x.alloc(4, 0), 64);
    due("class 4", x.alloc(3, 0), 80);
    due("free", x.free(25), 3);
    due("free", x.free(19), 3);
    due("the least page's first empty slot", x.alloc(2, 1), 19);
    due("then the next empty one", x.alloc(2, 1), 25);
    due("then the later page", x.alloc(2, 1), 35);
  }

  private static void allocExtents() {
    fresh(2);
    due("order 0", x.alloc(8, 0), 16);
    due("order 1", x.alloc(16, 0), 32);
    due("order 0, of the free extent of pages 4 to 7", x.alloc(15, 0), 64);
    due("order 1, the rest of it", x.alloc(31, 0), 96);
    due("order 0, the page that is left", x.alloc(8, 0), 80);
    due("order 2, of three pages", x.alloc(32, 0), 128);
    due("next(0)", x.next(0), 12);
    due("free(16)", x.free(16), 9);
    due("the least order that fits goes ahead", x.alloc(1, 0), 16);
  }

  private static void allocWrites() {
    fresh(2);
    for (int w = 16; w < 48; w++) {
      x.scribble(w, w);
    }
    x.fence();
    due("alloc", x.alloc(10, 2), 16);
    due("its head", x.word(16, false), x.head(16, 10, 2));
    for (int w = 17; w <= 26; w++) {
      due("its words", x.word(w, false), 0);
    }
    due("what is left over stays", x.word(27, false), 27);
    due("not kept", x.word(16, true), 16);
    dueWaits(2, 3);
    due("alloc", x.alloc(4, 0), 32);
    due("the rest of a slot stays", x.word(37, false), 37);
    dueWaits(2, 3, 4);
    due("alloc across lines", x.alloc(4, 0), 38);
    dueWaits(2, 3, 4, 5);
  }

  private static void frees() {
    fresh(3);
    int[] bad = {0, 16, -1, 4096, MIN, MAX, 1};
    for (int address : bad) {
      refused("free(" + address + ")", x.free(address), 2);
    }
    due("alloc", x.alloc(20, 1), 32);
    due("alloc", x.alloc(1, 1), 16);
    refused("the middle of an extent", x.free(48), 2);
    refused("a word of a block", x.free(33), 2);
    refused("an empty slot", x.free(18), 2);
    x.root(7, 32);
    refused("a root", x.free(32), 4);
    x.root(7, 0);
    x.refer(16, 0, 32);
    refused("a reference", x.free(32), 4);
    x.refer(16, 0, 0);
    x.refer(32, 0, 32);
    refused("its own", x.free(32), 4);
    x.refer(32, 0, 0);
    x.put(32, 1, 32);
    x.fence();
    due("words that are no references don't lead", x.free(32), 21);
    due("trouble()", x.trouble(), 0);
    dueWaits(4);
    due("0 in its head", x.word(32, false), 0);
    due("its words stay", x.word(34, false), 32);
    due("its pages are free", x.page(3, 0), 0);
    due("free(16)", x.free(16), 2);
    due("its slab is free", x.page(1, 0), 0);
    due("count(1)", x.count(1), 255);
    x.alloc(1, 1);
    x.alloc(1, 0);
    x.refer(16, 0, 18);
    x.free(16);
    due("what a dead block refers to", x.free(18), 2);
  }

  private static void puts() {
    fresh(4);
    x.alloc(3, 1);
    x.fence();
    done("put", x.put(16, 1, -7));
    done("put", x.put(16, 2, MIN));
    due("word(18, false)", x.word(18, false), -7);
    due("word(18, true)", x.word(18, true), 0);
    due("word(19, false)", x.word(19, false), MIN);
    dueWaits(2);
    refused("a reference", x.put(16, 0, 0), 2);
    refused("behind", x.put(16, 3, 1), 2);
    refused("ahead", x.put(16, -1, 1), 2);
    refused("far", x.put(16, MAX, 1), 2);
    refused("far", x.put(16, MIN, 1), 2);
    refused("no block", x.put(20, 0, 1), 2);
    refused("no block", x.put(17, 0, 1), 2);
    refused("page 0", x.put(0, 0, 1), 2);
    refused("no address", x.put(MIN, 0, 1), 2);
    x.fence();
    done("the same again", x.put(16, 1, -7));
    dueWaits(2);
  }

  private static void refers() {
    fresh(5);
    x.alloc(3, 2);
    x.alloc(8, 0);
    done("refer", x.refer(16, 1, 32));
    due("get", x.get(16, 1), 32);
    done("to itself", x.refer(16, 0, 16));
    refused("no reference", x.refer(16, 2, 32), 2);
    refused("ahead", x.refer(16, -1, 32), 2);
    refused("far", x.refer(16, MAX, 0), 2);
    refused("no block", x.refer(20, 0, 0), 2);
    refused("to no block", x.refer(16, 0, 20), 2);
    refused("to a word of a block", x.refer(16, 0, 33), 2);
    refused("to page 0", x.refer(16, 0, 1), 2);
    refused("to no word", x.refer(16, 0, -1), 2);
    refused("to no word", x.refer(16, 0, 4096), 2);
    due("what was refused changes nothing", x.get(16, 0), 16);
    done("to 0", x.refer(16, 0, 0));
    due("get", x.get(16, 0), 0);
    refused("a block without references", x.refer(32, 0, 16), 2);
  }

  private static void gets() {
    fresh(6);
    x.alloc(3, 1);
    x.put(16, 2, 9);
    x.refer(16, 0, 16);
    x.alloc(3, 0);
    x.alloc(1, 1);
    refused("a refusal", x.free(0), 2);
    due("a reference", x.get(16, 0), 16);
    due("a word", x.get(16, 2), 9);
    due("its head is no word of it", x.get(16, -1), 0);
    due("another's head is no word of it", x.get(16, 3), 0);
    due("far", x.get(16, MAX), 0);
    due("no block", x.get(17, 1), 0);
    due("no block", x.get(0, 1), 0);
    due("no address", x.get(-5, 6), 0);
    due("no address", x.get(MAX, 1), 0);
    due("get() is never refused", x.trouble(), 2);
  }

  private static void roots() {
    fresh(7);
    x.alloc(8, 0);
    x.fence();
    done("root", x.root(7, 16));
    done("root", x.root(0, 16));
    dueWaits(1, 0);
    due("word 8", x.word(8, false), 16);
    due("word 1", x.word(1, false), 16);
    refused("root(8, ..)", x.root(8, 16), 2);
    refused("root(-1, ..)", x.root(-1, 16), 2);
    refused("root(8, 0)", x.root(8, 0), 2);
    refused("to no block", x.root(0, 17), 2);
    refused("to no block", x.root(0, 32), 2);
    refused("to no word", x.root(0, MIN), 2);
    done("to 0", x.root(0, 0));
    promise = 8;
    due("rootOf(0)", x.rootOf(0), 0);
    due("rootOf(7)", x.rootOf(7), 16);
    due("rootOf(8)", x.rootOf(8), -1);
    due("rootOf(-1)", x.rootOf(-1), -1);
    due("rootOf(MAX)", x.rootOf(MAX), -1);
  }

  private static void fences() {
    fresh(9);
    due("nothing waits", x.fence(), 0);
    x.scribble(100, 1);
    x.scribble(20, 2);
    x.scribble(101, 3);
    dueWaits(12, 2);
    due("fence()", x.fence(), 2);
    dueWaits();
    due("kept", x.word(101, true), 3);
    due("fence()", x.fence(), 0);
    x.scribble(20, 4);
    x.scribble(100, 5);
    dueWaits(2, 12);
    due("only what was written since waits", x.fence(), 2);
  }

  private static void crashMask() {
    fresh(10);
    for (int line = 2; line < 72; line++) {
      x.scribble(8 * line, line);
      x.scribble(8 * line + 7, -line);
    }
    x.crash(1 << 31 | 1 << 2);
    dueWaits();
    for (int k = 0; k < 70; k++) {
      int line = k + 2;
      int want = k % 32 == 31 || k % 32 == 2 ? line : 0;
      due("word of line " + line, x.word(8 * line, false), want);
      due("last word of line " + line, x.word(8 * line + 7, true), -want);
    }
    x.scribble(16, 5);
    x.fence();
    x.scribble(16, 6);
    x.scribble(17, 7);
    x.crash(0);
    due("as it was kept ahead", x.word(16, false), 5);
    due("as it was kept ahead", x.word(17, false), 0);
    due("crashes", x.count(7), 2);
  }

  /** Roots are written to words 1 to 8 only by root(), so strays reach the walk as old words of a block. */
  private static int plant(int... strays) {
    int first = x.next(0);
    for (int i = 0; i < strays.length; i++) {
      x.scribble(16 * first + 8 + i, strays[i]);
    }
    x.fence();
    int address = x.alloc(15, 15);
    due("the planted block", address, 16 * first);
    x.root(0, address);
    dueWaits(2 * first, 2 * first + 1, 0);
    return address;
  }

  private static void recoveryPlaces() {
    fresh(10);
    x.scribble(32, x.head(32, 2, 0));
    x.scribble(32 + 12, x.head(44, 2, 0));
    x.scribble(32 + 15, x.head(47, 2, 0));
    x.scribble(48 + 6, x.head(54, 5, 1));
    x.scribble(48 + 12, x.head(60, 4, 0));
    x.scribble(64, x.head(64, 16, 0));
    x.scribble(48, x.head(48, 16, 0));
    plant(44, 47, 54, 60, 64, 48, 32);
    due("crash", x.crash(5), 5);
    dueLive(16, 32, 44, 54, 64);
    due("cleared", x.count(5), 3);
    due("a slot", x.get(16, 7), 44);
    due("offset 15 of class 3 is no slot", x.get(16, 8), 0);
    due("a slot", x.get(16, 9), 54);
    due("offset 12 of class 6 is no slot", x.get(16, 10), 0);
    due("an extent", x.get(16, 11), 64);
    due("an extent from a page that doesn't fit", x.get(16, 12), 0);
    due("a slot", x.get(16, 13), 32);
    dueWaits(3);
    due("cleared is written, not kept", x.word(25, true), 47);
    due("pages of the extent", x.page(5, 0), 3);
    due("a slab", x.page(3, 1), 6);
    due("again", x.crash(0), 5);
    due("cleared again", x.count(5), 3);
    due("again", x.crash(1), 5);
    due("once kept, it is cleared no more", x.count(5), 0);
  }

  private static void recoveryHeads() {
    fresh(10);
    x.scribble(32, x.head(32, 1, 0) + 4194304);
    x.scribble(34, x.head(34, 1, 0) + MIN);
    x.scribble(36, x.head(36, 1, 1) + 1);
    x.scribble(38, (31 * 38 + 90) % 512 * 4194304 + 4194304);
    x.scribble(40, x.head(40, 1, 1));
    x.scribble(42, (31 * 42 + 7 + 13 * 2 + 90) % 512 * 4194304 + 4194304 + 2048 + 2);
    plant(32, 34, 36, 38, 42, 40, -40, 8);
    due("crash", x.crash(5), 2);
    dueLive(16, 40);
    due("cleared", x.count(5), 7);
    due("refs", x.block(40, 1), 1);
    fresh(10);
    plant(1, 15, 4096, MAX, MIN, -1, 16, 18);
    due("crash", x.crash(5), 1);
    due("cleared", x.count(5), 7);
    due("its own address stays", x.get(16, 13), 16);
  }

  /** A page that one block has taken is not there for another: who comes first decides. */
  private static void recoveryOrder() {
    fresh(10);
    x.scribble(32, x.head(32, 20, 0));
    x.scribble(48, x.head(48, 1, 0));
    plant(48, 32);
    due("crash", x.crash(5), 2);
    dueLive(16, 48);
    due("cleared", x.get(16, 8), 0);
    fresh(10);
    x.scribble(32, x.head(32, 20, 0));
    x.scribble(48, x.head(48, 1, 0));
    plant(32, 48);
    due("crash", x.crash(5), 2);
    dueLive(16, 32);
    fresh(10);
    x.scribble(32, x.head(32, 1, 0));
    x.scribble(36, x.head(36, 3, 0));
    x.scribble(38, x.head(38, 1, 0));
    plant(32, 36, 38, 38, 0, 32);
    due("a slab of another class", x.crash(5), 3);
    dueLive(16, 32, 38);
    due("cleared", x.count(5), 1);
    due("extents are in no slab", x.page(2, 2), 2);
    fresh(10);
    x.scribble(96, x.head(96, 1, 0));
    x.scribble(64, x.head(64, 40, 0));
    x.scribble(128, x.head(128, 1, 1));
    x.scribble(129, 64);
    int planted = plant(128, 96);
    due("by breadth, not by depth", x.crash(5), 3);
    dueLive(planted, 96, 128);
    due("the later one is cleared", x.get(128, 0), 0);
    dueWaits(16);
  }

  private static void recoveryForgets() {
    fresh(10);
    due("alloc", x.alloc(1, 1), 16);
    due("alloc", x.alloc(1, 1), 18);
    due("alloc", x.alloc(1, 1), 20);
    x.root(3, 18);
    x.root(5, 18);
    x.refer(18, 0, 18);
    x.refer(16, 0, 20);
    due("only what the roots reach", x.crash(-1), 1);
    dueLive(18);
    due("roots and references to it", x.block(18, 4), 3);
    due("its head stays in the words", x.word(16, false), x.head(16, 1, 1));
    due("alloc", x.alloc(1, 0), 16);
    x.fence();
    x.root(5, 0);
    x.root(3, 0);
    x.refer(18, 0, 0);
    due("free", x.free(18), 2);
    due("the root's line is lost, the head's is kept", x.crash(2), 0);
    due("cleared", x.count(5), 2);
    dueWaits(0);
    due("rootOf(3)", x.rootOf(3), 0);
    due("kept root", x.word(4, true), 18);
    due("trouble is not the crash's", x.trouble(), 0);
  }

  private static void collects() {
    fresh(11);
    due("nothing", x.collect(), 0);
    x.alloc(2, 2);
    x.alloc(2, 2);
    x.alloc(2, 2);
    x.alloc(40, 1);
    x.alloc(8, 0);
    dueLive(16, 19, 22, 32, 64);
    x.root(6, 19);
    x.refer(19, 1, 64);
    x.refer(64, 0, 19);
    x.refer(16, 0, 22);
    x.refer(22, 0, 16);
    x.refer(22, 1, 19);
    x.put(64, 1, 16);
    x.put(64, 39, 16);
    x.fence();
    refused("a refusal", x.put(0, 0, 0), 2);
    due("rings and what stands alone", x.collect(), 3);
    due("collect() is never refused", x.trouble(), 2);
    dueLive(19, 64);
    dueWaits(2, 4);
    due("0 in its head", x.word(22, false), 0);
    due("a freed page", x.page(2, 0), 0);
    due("leads to it", x.block(19, 4), 2);
    due("again", x.collect(), 0);
    x.root(6, 0);
    due("all", x.collect(), 2);
    due("count(1)", x.count(1), 255);
  }

  private static void collectOrder() {
    fresh(11);
    x.alloc(40, 1);
    x.alloc(1, 1);
    x.alloc(8, 1);
    x.refer(64, 0, 16);
    x.refer(32, 0, 64);
    x.fence();
    due("collect()", x.collect(), 3);
    dueWaits(2, 4, 8);
  }

  private static void wordsAndScribbles() {
    fresh(12);
    int[] out = {-1, 4096, MIN, MAX};
    for (int w : out) {
      due("word(" + w + ", false)", x.word(w, false), 0);
      due("word(" + w + ", true)", x.word(w, true), 0);
    }
    done("scribble", x.scribble(4095, -3));
    due("as it is", x.word(4095, false), -3);
    due("as it was kept", x.word(4095, true), 0);
    promise = 13;
    done("scribble", x.scribble(16, 1));
    dueWaits(511, 2);
    x.alloc(4, 0);
    x.alloc(16, 0);
    for (int w = 16; w <= 20; w++) {
      refused("a block's word " + w, x.scribble(w, 1), 2);
    }
    done("the rest of a slot", x.scribble(21, 1));
    done("an empty slot", x.scribble(22, 1));
    done("behind the last slot", x.scribble(31, 1));
    refused("an extent's head", x.scribble(32, 1), 2);
    refused("an extent's last word", x.scribble(48, 1), 2);
    done("behind it", x.scribble(49, 1));
    done("its last page's last word", x.scribble(63, 1));
    int[] outside = {-1, 0, 1, 15, 4096, MIN, MAX};
    for (int w : outside) {
      refused("scribble(" + w + ", ..)", x.scribble(w, 1), 3);
    }
    due("a root", x.word(1, false), 0);
  }

  private static void blocks() {
    fresh(14);
    x.alloc(7, 3);
    x.alloc(2047, 1);
    x.alloc(4, 4);
    x.root(1, 16);
    x.root(2, 16);
    x.refer(2048, 0, 16);
    x.refer(16, 0, 16);
    x.refer(16, 2, 16);
    x.put(16, 3, 16);
    int[][] wants = {{7, 3, 8, -1, 5}, {2047, 1, 0, 7, 0}, {4, 4, 6, -1, 0}};
    int[] addresses = {16, 2048, 32};
    for (int b = 0; b < 3; b++) {
      for (int what = 0; what < 5; what++) {
        due("block(" + addresses[b] + ", " + what + ")", x.block(addresses[b], what), wants[b][what]);
      }
      due("no such what", x.block(addresses[b], 5), -1);
      due("no such what", x.block(addresses[b], -1), -1);
    }
    int[] bad = {0, 17, 24, 2064, 4096, -16, MIN, MAX};
    for (int address : bad) {
      due("block(" + address + ", 0)", x.block(address, 0), -1);
      due("block(" + address + ", 4)", x.block(address, 4), -1);
    }
    promise = 15;
    dueLive(16, 32, 2048);
    due("live(-1)", x.live(-1), -1);
    due("live(MIN)", x.live(MIN), -1);
    due("live(MAX)", x.live(MAX), -1);
  }

  private static void duePage(int p, int... wants) {
    for (int what = 0; what < 4; what++) {
      due("page(" + p + ", " + what + ")", x.page(p, what), wants[what]);
    }
    due("no such what", x.page(p, 4), -1);
    due("no such what", x.page(p, -1), -1);
  }

  private static void pagesAndExtents() {
    fresh(16);
    x.alloc(2, 0);
    x.alloc(2, 0);
    x.alloc(40, 0);
    x.alloc(2, 0);
    duePage(0, 4, -1, 0, 0);
    duePage(1, 1, 3, 3, 1);
    duePage(2, 0, 1, 0, 2);
    duePage(3, 0, 1, 0, 2);
    duePage(4, 2, 2, 1, 4);
    duePage(5, 3, 2, 0, 4);
    duePage(7, 3, 2, 0, 4);
    duePage(15, 0, 3, 0, 8);
    duePage(128, 0, 7, 0, 128);
    int[] bad = {-1, 256, MIN, MAX};
    for (int p : bad) {
      duePage(p, -1, -1, -1, -1);
    }
    promise = 17;
    int[] wants = {0, 1, 0, 1, 1, 1, 1, 1, 0};
    int[] nexts = {2, 2, 8, 8, 16, 32, 64, 128, -1};
    for (int order = 0; order < 9; order++) {
      due("extents(" + order + ")", x.extents(order), wants[order]);
      due("next(" + order + ")", x.next(order), nexts[order]);
    }
    int[] out = {-1, 9, 31, 32, MIN, MAX};
    for (int order : out) {
      due("extents(" + order + ")", x.extents(order), -1);
      due("next(" + order + ")", x.next(order), -1);
    }
  }

  private static void joined() {
    fresh(17);
    int[] at = new int[8];
    for (int i = 0; i < 8; i++) {
      at[i] = x.alloc(15, 0);
    }
    due("the last one", at[7], 128);
    x.free(at[1]);
    x.free(at[4]);
    x.free(at[6]);
    due("three alone, and the one beside page 8", x.extents(0), 4);
    due("the least page", x.next(0), 2);
    due("halves", x.next(1), 10);
    x.free(at[5]);
    due("joined", x.extents(1), 2);
    due("page 7 is of it", x.page(7, 3), 6);
    x.free(at[3]);
    due("joined again", x.page(7, 3), 4);
    due("order 2", x.extents(2), 2);
    promise = 18;
    x.alloc(2047, 0);
    due("next(7) is refused", x.next(7), -1);
    due("next(6)", x.next(6), 64);
  }

  private static void counts() {
    fresh(19);
    x.alloc(2, 0);
    x.alloc(4, 0);
    x.alloc(20, 0);
    int[] wants = {3, 251, 2, 5, 5, 0, 29, 0};
    for (int what = 0; what < 8; what++) {
      due("count(" + what + ")", x.count(what), wants[what]);
    }
    int[] bad = {-1, 8, MIN, MAX};
    for (int what : bad) {
      due("count(" + what + ")", x.count(what), -1);
    }
    x.crash(-1);
    x.crash(-1);
    int[] then = {0, 255, 0, 0, 0, 0, 0, 2};
    for (int what = 0; what < 8; what++) {
      due("count(" + what + ")", x.count(what), then[what]);
    }
  }

  private static void heads() {
    fresh(20);
    due("head(16, 1, 0)", x.head(16, 1, 0), 82 * 4194304 + 2048);
    due("head(16, 1, 1)", x.head(16, 1, 1), 95 * 4194304 + 2048 + 1);
    due("head(4095, 2047, 2047)", x.head(4095, 2047, 2047), 40 * 4194304 + 2047 * 2048 + 2047);
    // 31 * 29 + 7 * 5 + 90 is 1024.
    due("the least CHECK", x.head(29, 5, 0), 4194304 + 5 * 2048);
    // 31 * 16 + 7 * 62 + 13 * 1 + 90 is 1033, 31 * 33 + 7 * 60 + 13 * 1 + 90 is 1546.
    due("head(16, 62, 1)", x.head(16, 62, 1), 10 * 4194304 + 62 * 2048 + 1);
    due("head(33, 60, 1)", x.head(33, 60, 1), 11 * 4194304 + 60 * 2048 + 1);
    int least = MAX;
    for (int address = 16; address < 400; address++) {
      least = Math.min(least, x.head(address, 1, 0));
    }
    due("with CHECK 512 it wraps", least, MIN + 2048);
    int[] bad = {15, 0, -1, 4096, MIN, MAX};
    for (int address : bad) {
      due("head(" + address + ", 1, 0)", x.head(address, 1, 0), 0);
    }
    int[][] shapes = {{0, 0}, {2048, 0}, {-1, 0}, {1, 2}, {1, -1}, {MAX, 0}, {5, MIN}};
    for (int[] s : shapes) {
      due("head(16, " + s[0] + ", " + s[1] + ")", x.head(16, s[0], s[1]), 0);
    }
  }

  private static void waitsAndTrouble() {
    fresh(21);
    x.alloc(1, 1);
    x.root(7, 16);
    x.root(0, 16);
    x.refer(16, 0, 0);
    dueWaits(2, 1, 0);
    due("waits(-1)", x.waits(-1), -1);
    due("waits(MIN)", x.waits(MIN), -1);
    due("waits(MAX)", x.waits(MAX), -1);
    x.fence();
    due("waits(0)", x.waits(0), -1);
    promise = 22;
    due("trouble()", x.trouble(), 0);
    refused("free(16)", x.free(16), 4);
    x.fence();
    x.crash(0);
    x.collect();
    x.get(3, 3);
    x.rootOf(9);
    x.block(3, 3);
    x.live(-1);
    x.page(-1, 0);
    x.extents(9);
    x.next(9);
    x.count(9);
    x.head(0, 0, 0);
    x.waits(-1);
    x.word(-1, true);
    due("calls that can't be refused leave it", x.trouble(), 4);
    refused("scribble(0, 0)", x.scribble(0, 0), 3);
    done("refer", x.refer(16, 0, 16));
  }

  private static void fullHeap() {
    fresh(2);
    for (int p = 1; p < 256; p++) {
      due("a page each", x.alloc(8, 1), 16 * p);
    }
    due("count(1)", x.count(1), 0);
    refused("a small one", x.alloc(1, 0), 1);
    refused("an extent", x.alloc(8, 0), 1);
    due("next(0)", x.next(0), -1);
    due("live(254)", x.live(254), 4080);
    due("collect()", x.collect(), 255);
    due("alloc", x.alloc(2047, 0), 2048);
  }

  /** A long chain through the heap: the walks must not go deep. */
  private static void chain() {
    fresh(10);
    int before = 0;
    for (int i = 0; i < 240; i++) {
      int address = x.alloc(1, 1);
      boolean linked = before == 0 ? x.root(0, address) : x.refer(before, 0, address);
      due("link", linked, true);
      before = address;
    }
    due("collect()", x.collect(), 0);
    due("crash(-1)", x.crash(-1), 240);
    due("count(5)", x.count(5), 0);
  }

  /** Seven ways round and round at the same block must not use up the room of the walk. */
  private static void rounds() {
    fresh(11);
    int knot = x.alloc(7, 7);
    for (int i = 0; i < 7; i++) {
      x.refer(knot, i, knot);
    }
    x.root(0, knot);
    int before = x.alloc(1, 1);
    x.root(1, before);
    for (int i = 0; i < 20; i++) {
      int address = x.alloc(1, 1);
      x.refer(before, 0, address);
      before = address;
    }
    due("block(knot, 4)", x.block(knot, 4), 8);
    due("collect()", x.collect(), 0);
    due("crash(-1)", x.crash(-1), 22);
    due("count(5)", x.count(5), 0);
  }

  public static void main(String[] args) {
    newObject();
    allocNumbers();
    allocSlots();
    allocExtents();
    allocWrites();
    frees();
    puts();
    refers();
    gets();
    roots();
    fences();
    crashMask();
    recoveryPlaces();
    recoveryHeads();
    recoveryOrder();
    recoveryForgets();
    collects();
    collectOrder();
    wordsAndScribbles();
    blocks();
    pagesAndExtents();
    joined();
    counts();
    heads();
    waitsAndTrouble();
    fullHeap();
    chain();
    rounds();
    System.out.println(wrong == 0 ? "all answers are as due" : wrong + " answers are not as due");
    if (wrong != 0) {
      System.exit(1);
    }
  }
}
