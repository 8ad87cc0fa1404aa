import java.util.ArrayDeque;
import java.util.ArrayList;
import java.util.Deque;
import java.util.HashSet;
import java.util.List;
import java.util.Random;
import java.util.Set;
import java.util.TreeMap;

/** Long runs of mixed calls: each answer must be that of a slow model that follows the document's words. */
public final class ModelTest {
  private static final int RUNS = 600;
  private static final int CALLS = 512;
  /** Calls that one step of a run may make: an object is good for no more than 512. */
  private static final int MOST_AT_ONCE = 40;

  /** Holds nothing but the words, the waiting lines and the live blocks; all else is found anew at each call. */
  private static final class Model {
    int[] now = new int[4096];
    int[] kept = new int[4096];
    final List<Integer> lines = new ArrayList<>();
    final TreeMap<Integer, int[]> live = new TreeMap<>();
    int cleared = 0;
    int crashes = 0;
    int trouble = 0;

    private int refuse(int why) { trouble = why; return -1; }

    private void write(int w, int v) {
      now[w] = v;
      if (!lines.contains(w / 8)) lines.add(w / 8);
    }

    static int classOf(int size) {
      int length = size + 1;
      return length <= 2 ? 2 : length == 3 ? 3 : length == 4 ? 4 : length <= 6 ? 6 : length <= 8 ? 8 : 0;
    }

    static int orderOf(int size) {
      if (classOf(size) != 0) return -1;
      int order = 0;
      int room = 16;
      while (room < size + 1) { room *= 2; order++; }
      return order;
    }

    static boolean right(int size, int refs) {
      return !(size < 1 || size > 2047 || refs < 0 || refs > size);
    }

    /** The address of the block that the page belongs to, or of a slab's first block; 0 if the page is free. */
    private int owner(int p) {
      for (int a : live.keySet()) {
        int order = orderOf(live.get(a)[0]);
        int pages = order < 0 ? 1 : 1 << order;
        if (a / 16 <= p && p < a / 16 + pages) return a;
      }
      return 0;
    }

    /** What no block holds, halved from the whole heap downwards: rows of first page and order. */
    private List<int[]> freeExtents() {
      boolean[] busy = new boolean[256];
      busy[0] = true;
      for (int a : live.keySet()) {
        int order = Math.max(0, orderOf(live.get(a)[0]));
        for (int i = 0; i < 1 << order; i++) busy[a / 16 + i] = true;
      }
      List<int[]> found = new ArrayList<>();
      halve(busy, 0, 8, found);
      return found;
    }

    private static void halve(boolean[] busy, int first, int order, List<int[]> found) {
      boolean all = true;
      for (int i = 0; i < 1 << order; i++) all &= !busy[first + i];
      if (all) {
        found.add(new int[] {first, order});
      } else if (order > 0) {
        halve(busy, first, order - 1, found);
        halve(busy, first + (1 << (order - 1)), order - 1, found);
      }
    }

    int alloc(int size, int refs) {
      if (!right(size, refs)) return refuse(3);
      int c = classOf(size);
      int place = -1;
      if (c != 0) place = slot(c);
      if (place < 0) {
        int p = next(Math.max(0, orderOf(size)));
        if (p < 0) return refuse(1);
        place = 16 * p;
      }
      live.put(place, new int[] {size, refs});
      write(place, head(place, size, refs));
      for (int i = 1; i <= size; i++) write(place + i, 0);
      trouble = 0;
      return place;
    }

    private int slot(int c) {
      for (int p = 1; p < 256; p++) {
        int a = owner(p);
        if (a == 0 || classOf(live.get(a)[0]) != c) continue;
        for (int s = 16 * p; s + c <= 16 * p + 16; s += c) if (!live.containsKey(s)) return s;
      }
      return -1;
    }

    private int leads(int address) {
      int n = 0;
      for (int w = 1; w <= 8; w++) n += now[w] == address ? 1 : 0;
      for (int a : live.keySet()) {
        for (int i = 1; i <= live.get(a)[1]; i++) n += now[a + i] == address ? 1 : 0;
      }
      return n;
    }

    int free(int address) {
      if (!live.containsKey(address)) return refuse(2);
      if (leads(address) > 0) return refuse(4);
      int length = live.remove(address)[0] + 1;
      write(address, 0);
      trouble = 0;
      return length;
    }

    boolean put(int address, int i, int v) {
      int[] b = live.get(address);
      if (b == null || i < b[1] || i >= b[0]) return refuse(2) == 0;
      write(address + 1 + i, v);
      trouble = 0;
      return true;
    }

    boolean refer(int address, int i, int to) {
      int[] b = live.get(address);
      if (b == null || i < 0 || i >= b[1] || to != 0 && !live.containsKey(to)) return refuse(2) == 0;
      write(address + 1 + i, to);
      trouble = 0;
      return true;
    }

    int get(int address, int i) {
      int[] b = live.get(address);
      return b == null || i < 0 || i >= b[0] ? 0 : now[address + 1 + i];
    }

    boolean root(int i, int to) {
      if (i < 0 || i > 7 || to != 0 && !live.containsKey(to)) return refuse(2) == 0;
      write(1 + i, to);
      trouble = 0;
      return true;
    }

    int rootOf(int i) { return i < 0 || i > 7 ? -1 : now[1 + i]; }

    int fence() {
      int n = lines.size();
      kept = now.clone();
      lines.clear();
      return n;
    }

    int crash(int mask) {
      for (int k = 0; k < lines.size(); k++) {
        if ((mask & 1 << k % 32) == 0) continue;
        for (int j = 0; j < 8; j++) kept[8 * lines.get(k) + j] = now[8 * lines.get(k) + j];
      }
      now = kept.clone();
      lines.clear();
      live.clear();
      cleared = 0;
      crashes++;
      Deque<Integer> toLookAt = new ArrayDeque<>();
      for (int w = 1; w <= 8; w++) toLookAt.add(w);
      while (!toLookAt.isEmpty()) {
        int w = toLookAt.remove();
        int a = now[w];
        if (a == 0 || live.containsKey(a)) continue;
        if (!stands(a)) {
          write(w, 0);
          cleared++;
          continue;
        }
        int refs = refsIn(now[a]);
        live.put(a, new int[] {sizeIn(now[a]), refs});
        for (int i = 1; i <= refs; i++) toLookAt.add(a + i);
      }
      return live.size();
    }

    private static int sizeIn(int h) { return Math.floorMod(Math.floorDiv(h, 2048), 2048); }

    private static int refsIn(int h) { return Math.floorMod(h, 2048); }

    private boolean stands(int a) {
      if (a < 16 || a > 4095) return false;
      int size = sizeIn(now[a]);
      int refs = refsIn(now[a]);
      if (!right(size, refs) || now[a] != head(a, size, refs)) return false;
      int c = classOf(size);
      int p = a / 16;
      if (c != 0) {
        boolean begins = false;
        for (int s = 0; s < 16 / c; s++) begins |= a == 16 * p + s * c;
        int o = owner(p);
        return begins && (o == 0 || classOf(live.get(o)[0]) == c);
      }
      int pages = 1 << orderOf(size);
      if (a % (16 * pages) != 0 || p + pages > 256) return false;
      for (int i = 0; i < pages; i++) if (owner(p + i) != 0) return false;
      return true;
    }

    int collect() {
      Set<Integer> reached = new HashSet<>();
      for (int w = 1; w <= 8; w++) reach(now[w], reached);
      int n = 0;
      for (int a : new ArrayList<>(live.keySet())) {
        if (reached.contains(a)) continue;
        live.remove(a);
        write(a, 0);
        n++;
      }
      return n;
    }

    private void reach(int a, Set<Integer> reached) {
      if (!live.containsKey(a) || !reached.add(a)) return;
      for (int i = 1; i <= live.get(a)[1]; i++) reach(now[a + i], reached);
    }

    int word(int w, boolean isKept) { return w < 0 || w > 4095 ? 0 : isKept ? kept[w] : now[w]; }

    boolean scribble(int w, int v) {
      if (w < 16 || w > 4095) return refuse(3) == 0;
      for (int a : live.keySet()) if (a <= w && w <= a + live.get(a)[0]) return refuse(2) == 0;
      write(w, v);
      trouble = 0;
      return true;
    }

    int block(int address, int what) {
      int[] b = live.get(address);
      if (b == null || what < 0 || what > 4) return -1;
      return what == 0 ? b[0] : what == 1 ? b[1] : what == 2 ? classOf(b[0])
          : what == 3 ? orderOf(b[0]) : leads(address);
    }

    int live(int i) {
      return i < 0 || i >= live.size() ? -1 : new ArrayList<>(live.keySet()).get(i);
    }

    int page(int p, int what) {
      if (p < 0 || p > 255 || what < 0 || what > 3) return -1;
      if (p == 0) return new int[] {4, -1, 0, 0}[what];
      int o = owner(p);
      if (o == 0) {
        for (int[] e : freeExtents()) {
          if (e[0] <= p && p < e[0] + (1 << e[1])) return new int[] {0, e[1], 0, e[0]}[what];
        }
        throw new IllegalStateException("a free page of no extent");
      }
      int size = live.get(o)[0];
      if (classOf(size) == 0) {
        boolean first = o == 16 * p;
        return new int[] {first ? 2 : 3, orderOf(size), first ? 1 : 0, o / 16}[what];
      }
      return new int[] {1, classOf(size), live.subMap(16 * p, 16 * p + 16).size(), p}[what];
    }

    int extents(int order) {
      if (order < 0 || order > 8) return -1;
      int n = 0;
      for (int[] e : freeExtents()) n += e[1] == order ? 1 : 0;
      return n;
    }

    int next(int order) {
      if (order < 0 || order > 8) return -1;
      int[] best = null;
      for (int[] e : freeExtents()) {
        if (e[1] >= order && (best == null || e[1] < best[1] || e[1] == best[1] && e[0] < best[0])) best = e;
      }
      return best == null ? -1 : best[0];
    }

    int count(int what) {
      int free = 0;
      for (int[] e : freeExtents()) free += 1 << e[1];
      int slabs = 0;
      int empty = 0;
      for (int p = 1; p < 256; p++) {
        if (page(p, 0) == 1) { slabs++; empty += 16 / page(p, 1) - page(p, 2); }
      }
      int length = 0;
      for (int[] b : live.values()) length += b[0] + 1;
      int[] all = {live.size(), free, slabs, empty, lines.size(), cleared, length, crashes};
      return what < 0 || what > 7 ? -1 : all[what];
    }

    static int head(int address, int size, int refs) {
      if (address < 16 || address > 4095 || !right(size, refs)) return 0;
      long check = (31L * address + 7L * size + 13L * refs + 90) % 512 + 1;
      return (int) (check * 4194304L + size * 2048L + refs);
    }

    int waits(int k) { return k < 0 || k >= lines.size() ? -1 : lines.get(k); }
  }

  /** One run: the same random calls to both, with numbers that lead to each other often. */
  private static final class Run {
    final int seed;
    final Random random;
    final SlabHeap heap = new SlabHeap();
    final Model model = new Model();
    /** Some runs stay within a few pages so that what is found by a crash overlaps often. */
    final int span;
    final int mostSize;
    int calls = 0;

    Run(int seed) {
      this.seed = seed;
      random = new Random(seed);
      span = new int[] {48, 96, 320, 4096}[seed % 4];
      mostSize = new int[] {4, 20, 40, 300, 2047}[seed / 4 % 5];
    }

    int below(int n) { return random.nextInt(n); }

    int odd() { return new int[] {-1, 0, 8, 15, 4095, 4096, Integer.MIN_VALUE, Integer.MAX_VALUE}[below(8)]; }

    int address() {
      int kind = below(20);
      if (kind == 0) return odd();
      if (kind < 4 || model.live.isEmpty()) return below(span);
      return model.live(below(model.live.size()));
    }

    int size() { return below(30) == 0 ? odd() : below(3) == 0 ? 1 + below(mostSize) : 1 + below(16); }

    int refs(int size) {
      return below(30) == 0 ? odd() : size <= 0 || size == Integer.MAX_VALUE ? 0 : below(size + 1);
    }

    int index(int address) {
      int[] b = model.live.get(address);
      return b == null || below(10) == 0 ? below(12) - 2 : below(b[0]);
    }

    int scrawl(int w) {
      int kind = below(8);
      if (kind < 4) {
        int size = size();
        return Model.head(w, size, refs(size));
      }
      if (kind == 4) {
        int size = below(20);
        return Model.head(w, Math.max(1, size), 0) + below(3) * 2048 + below(3) - (below(4) == 0 ? 1 << 31 : 0);
      }
      return kind < 7 ? 16 + below(span) : address();
    }

    int mask() {
      int kind = below(6);
      return kind == 0 ? -1 : kind == 1 ? 0 : kind == 2 ? 1 << below(32) : kind == 3 ? ~(1 << below(32)) : random.nextInt();
    }

    void due(String text, long got, long want) {
      calls++;
      if (got == want) return;
      System.out.println("seed " + seed + ": " + text + " answered " + got + ", due is " + want);
      wrong++;
    }

    void due(String text, boolean got, boolean want) { due(text, got ? 1 : 0, want ? 1 : 0); }

    void allocate(int size, int refs) {
      due("alloc(" + size + ", " + refs + ")", heap.alloc(size, refs), model.alloc(size, refs));
    }

    void setRoot(int i, int to) {
      due("root(" + i + ", " + to + ")", heap.root(i, to), model.root(i, to));
    }

    void scribbleOver(int w) {
      int v = scrawl(w);
      due("scribble(" + w + ", " + v + ")", heap.scribble(w, v), model.scribble(w, v));
    }

    void fence() { due("fence()", heap.fence(), model.fence()); }

    void crash() {
      int mask = mask();
      due("crash(" + mask + ")", heap.crash(mask), model.crash(mask));
      revived += model.live.size();
      lost += model.cleared;
    }

    /** Strays are kept, then a block goes over them and only a part of it is kept: its references are strays. */
    void stale() {
      int size = 8 + below(24);
      int first = 16 * Math.max(1, model.next(size < 16 ? 0 : 1));
      for (int n = 0; n < size; n++) {
        scribbleOver(below(3) == 0 ? 16 + below(span) : Math.min(4095, first + n));
      }
      fence();
      allocate(size, size - below(2));
      setRoot(below(8), first);
      crash();
    }

    void change() {
      if (below(60) == 0) stale();
      int kind = below(100);
      int a = address();
      int i = index(a);
      if (kind < 24) {
        int size = size();
        int refs = refs(size);
        allocate(size, refs);
      } else if (kind < 34) {
        due("free(" + a + ")", heap.free(a), model.free(a));
      } else if (kind < 42) {
        int v = scrawl(16 + below(span));
        due("put(" + a + ", " + i + ", " + v + ")", heap.put(a, i, v), model.put(a, i, v));
      } else if (kind < 62) {
        int to = below(5) == 0 ? 0 : address();
        int j = below(2) == 0 ? i : below(3);
        due("refer(" + a + ", " + j + ", " + to + ")", heap.refer(a, j, to), model.refer(a, j, to));
      } else if (kind < 70) {
        int r = below(10) == 0 ? odd() : below(8);
        int to = below(4) == 0 ? 0 : a;
        setRoot(r, to);
      } else if (kind < 90) {
        scribbleOver(below(20) == 0 ? odd() : 16 + below(span));
      } else if (kind < 93) {
        fence();
      } else if (kind < 98) {
        crash();
      } else if (kind < 99) {
        due("collect()", heap.collect(), model.collect());
      } else {
        due("trouble()", heap.trouble(), model.trouble);
      }
    }

    void ask() {
      int a = address();
      int i = index(a);
      int what = below(9) - 1;
      int p = below(15) == 0 ? odd() : below(3) == 0 ? below(256) : below(span / 16 + 1);
      int order = below(11) - 1;
      switch (below(13)) {
        case 0: due("get(" + a + ", " + i + ")", heap.get(a, i), model.get(a, i)); break;
        case 1: due("rootOf(" + what + ")", heap.rootOf(what), model.rootOf(what)); break;
        case 2: {
          int w = below(10) == 0 ? odd() : below(span);
          boolean kept = below(2) == 0;
          due("word(" + w + ", " + kept + ")", heap.word(w, kept), model.word(w, kept));
          break;
        }
        case 3: due("block(" + a + ", " + what + ")", heap.block(a, what), model.block(a, what)); break;
        case 4: {
          int k = below(15) == 0 ? odd() : below(model.live.size() + 2) - 1;
          due("live(" + k + ")", heap.live(k), model.live(k));
          break;
        }
        case 5: case 6: {
          int w = below(5) - (below(6) == 0 ? 1 : 0);
          due("page(" + p + ", " + w + ")", heap.page(p, w), model.page(p, w));
          break;
        }
        case 7: due("extents(" + order + ")", heap.extents(order), model.extents(order)); break;
        case 8: due("next(" + order + ")", heap.next(order), model.next(order)); break;
        case 9: due("count(" + what + ")", heap.count(what), model.count(what)); break;
        case 10: {
          int size = size();
          int refs = refs(size);
          int at = below(4) == 0 ? odd() : below(4096);
          due("head(" + at + ", " + size + ", " + refs + ")", heap.head(at, size, refs), Model.head(at, size, refs));
          break;
        }
        case 11: {
          int k = below(15) == 0 ? odd() : below(model.lines.size() + 2) - 1;
          due("waits(" + k + ")", heap.waits(k), model.waits(k));
          break;
        }
        default: due("trouble()", heap.trouble(), model.trouble);
      }
    }
  }

  private static int wrong = 0;
  private static int revived = 0;
  private static int lost = 0;

  public static void main(String[] args) {
    for (int seed = 0; seed < RUNS && wrong < 20; seed++) {
      Run run = new Run(seed);
      while (run.calls < CALLS - MOST_AT_ONCE && wrong < 20) {
        if (run.below(5) < 3) run.change();
        else run.ask();
      }
    }
    // A test whose crashes find nothing, or clear nothing, would not test them.
    System.out.println("by crashes: " + revived + " live again, " + lost + " cleared");
    if (revived < RUNS || lost < RUNS) wrong++;
    System.out.println(wrong == 0 ? "all answers are as due" : wrong + " answers are not as due");
    if (wrong != 0) System.exit(1);
  }
}
