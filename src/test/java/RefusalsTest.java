import java.util.Arrays;
import java.util.HashMap;
import java.util.List;
import java.util.Map;

/**
 * "Refusals, the first that the call's words name; they change nothing": every refusal of every promise, ahead of it
 * and behind it all that can be seen of the object (Probe); where two could be meant, which one it is. And calls that
 * ask "were it so" change nothing either.
 */
public final class RefusalsTest {
  private static final int NONE = VotesOnTree.NONE, BAD = VotesOnTree.BAD, STATE = VotesOnTree.STATE, FULL = VotesOnTree.FULL;
  private static final long NO = VotesOnTree.NO;
  private static final int NOTHING = -11, OUTSIDE = -12, OTHER_SORT = -13, BELOW = -14;
  private static final int MIN = Integer.MIN_VALUE, MAX = Integer.MAX_VALUE;
  private static final String SHORT_TEXT = "costs 1;falls 1;worth 1;";
  private static final Dues D = new Dues();
  private static final Map<Probe.Scene, List<String>> TOLD = new HashMap<>();

  private static final Probe.Scene NEW = VotesOnTree::new;
  private static final Probe.Scene RICH = RefusalsTest::rich;
  private static final Probe.Scene TWELVE = RefusalsTest::twelve;
  private static final Probe.Scene SIX_TEXTS = () -> sixTexts(SHORT_TEXT);
  private static final Probe.Scene SIX_TEXTS_FAULT = () -> sixTexts("costs #");
  private static final Probe.Scene SIX_TEXTS_NO_TAPE = () -> sixTexts("");
  private static final Probe.Scene FULL_TAPE = RefusalsTest::fullTape;

  public static void main(String[] args) {
    tree();
    texts();
    votesAndCuts();
    oddsAndTurns();
    whoCut();
    chanceBackCount();
    sheetAndCell();
    copy();
    nodes();
    taken();
    asksWhatMightBe();
    D.end();
  }

  /** 9 nodes: 3 is cut, and 4 below it too; 8 fell with 7. Sheet 3 is missing, a text is half told, an image kept. */
  private static VotesOnTree rich() {
    VotesOnTree x = Dues.oak(0, 2, 31, 0, 1, 20, 1, 5, 11, 3, 0, 1);
    x.set(2, 1, 30);
    x.set(4, 0, 7);
    x.cut(2);
    x.image();
    x.graft(2);
    Dues.rule(x, "costs node+9;falls kids*9;worth year;");
    x.grow(2, 3, 50);
    x.grow(2, 4, 1);
    x.grow(0, 0, 61);
    x.grow(7, 0, 0);
    x.set(2, 5, 0);
    x.set(3, 0, 1);
    x.set(3, 6, 1);
    x.set(4, 0, 42);
    x.cut(4);
    x.cut(3);
    x.cut(7);
    x.sheet(0, 0, 6);
    for (int i = 0; i < 6; i++) {
      x.cell(0, i, 10 * i + 1);
    }
    x.sheet(1, 1, 3);
    x.cell(1, 0, 40);
    x.cell(1, 1, 50);
    x.cell(1, 2, 91);
    x.sheet(2, 2, 2);
    x.cell(2, 1, 2);
    for (char letter : "costs 7+kids".toCharArray()) {
      x.feed(letter);
    }
    return x;
  }

  /** 12 nodes: 10 kids of the trunk stand, twigs all; node 11 is cut. */
  private static VotesOnTree twelve() {
    VotesOnTree x = new VotesOnTree();
    x.image();
    for (int i = 1; i < 12; i++) {
      x.grow(0, i % 6, i % 2);
    }
    x.cut(11);
    return x;
  }

  private static VotesOnTree sixTexts(String tape) {
    VotesOnTree x = new VotesOnTree();
    for (int i = 0; i < 5; i++) {
      Dues.text(x, SHORT_TEXT);
    }
    for (char letter : tape.toCharArray()) {
      x.feed(letter);
    }
    return x;
  }

  private static VotesOnTree fullTape() {
    VotesOnTree x = new VotesOnTree();
    for (int i = 0; i < 160; i++) {
      x.feed(i < SHORT_TEXT.length() ? SHORT_TEXT.charAt(i) : 32);
    }
    return x;
  }

  private static long call(VotesOnTree x, String name, int... args) {
    Class<?>[] types = new Class<?>[args.length];
    Object[] boxed = new Object[args.length];
    for (int i = 0; i < args.length; i++) {
      types[i] = int.class;
      boxed[i] = args[i];
    }
    try {
      return ((Number) VotesOnTree.class.getMethod(name, types).invoke(x, boxed)).longValue();
    } catch (ReflectiveOperationException e) {
      throw new IllegalStateException(name + Arrays.toString(args), e);
    }
  }

  /** The call answers so, twice, and nothing is changed. */
  private static void still(Probe.Scene scene, long due, String name, int... args) {
    String told = name + Arrays.toString(args);
    VotesOnTree x = scene.make();
    D.due(told, call(x, name, args), due);
    D.due(told + ", once more", call(x, name, args), due);
    List<String> before = TOLD.computeIfAbsent(scene, Probe::of);
    List<String> behind = Probe.of(() -> {
      VotesOnTree y = scene.make();
      call(y, name, args);
      return y;
    });
    String unlike = Probe.unlike(before, behind);
    D.due(told + " changes nothing, but " + unlike, unlike.isEmpty() ? 1 : 0, 1);
  }

  private static void tree() {
    D.scene("grow: BAD");
    int[][] bad = {{-1, 0, 0}, {9, 0, 0}, {12, 0, 0}, {MIN, 0, 0}, {MAX, 0, 0}, {0, -1, 0}, {0, 6, 0}, {0, 0, -1}, {0, 0, 2},
      {0, 0, 92}, {0, 0, 100}, {0, 0, 101}, {0, 0, -10}, {0, 0, MIN}, {0, 0, MAX}};
    for (int[] b : bad) {
      still(RICH, BAD, "grow", b);
    }
    D.scene("grow: STATE");
    still(RICH, STATE, "grow", 3, 0, 0);
    still(RICH, STATE, "grow", 8, 0, 0);
    D.scene("grow: FULL");
    still(TWELVE, FULL, "grow", 0, 0, 0);
    still(TWELVE, FULL, "grow", 10, 5, 91);
    D.scene("grow: BAD ahead of STATE, of FULL; STATE ahead of FULL");
    still(RICH, BAD, "grow", 3, 6, 0);
    still(RICH, BAD, "grow", 3, 0, 2);
    still(TWELVE, BAD, "grow", 12, 0, 0);
    still(TWELVE, BAD, "grow", 0, 6, 0);
    still(TWELVE, BAD, "grow", 0, 0, 92);
    still(TWELVE, STATE, "grow", 11, 0, 0);
    still(TWELVE, BAD, "grow", 11, -1, 0);
    D.scene("set: BAD");
    int[][] sets = {{-1, 0, 0}, {5, 0, 0}, {0, -1, 0}, {0, 9, 0}, {1, 12, 0}, {2, MAX, 0}, {3, MIN, 0}, {0, 1, -1}, {0, 1, 10},
      {1, 1, -1}, {1, 1, 2}, {2, 1, -1}, {2, 1, 101}, {3, 1, -1}, {3, 1, 2}, {4, 0, -1}, {4, 0, 100}, {4, 99, MIN}, {4, -1, MAX}};
    for (int[] s : sets) {
      still(RICH, BAD, "set", s);
    }
    D.scene("told, asks");
    int[][] told = {{-1, 0}, {9, 0}, {0, -1}, {0, 10}, {3, 10}, {MIN, MIN}, {MAX, MAX}};
    for (int[] t : told) {
      still(RICH, BAD, "told", t);
    }
    int[][] asks = {{-1, 0}, {9, 0}, {0, -1}, {0, 3}, {MIN, 0}, {MAX, 2}};
    for (int[] a : asks) {
      still(RICH, BAD, "asks", a);
    }
    still(RICH, STATE, "asks", 3, 0);
    still(RICH, STATE, "asks", 4, 1);
    still(RICH, STATE, "asks", 8, 2);
    D.scene("asks: BAD ahead of STATE");
    still(RICH, BAD, "asks", 3, 3);
    still(RICH, BAD, "asks", 8, -1);
  }

  private static void texts() {
    D.scene("feed: BAD, FULL, BAD ahead of FULL");
    int[] bad = {-1, 256, MIN, MAX};
    for (int letter : bad) {
      still(RICH, BAD, "feed", letter);
      still(FULL_TAPE, BAD, "feed", letter);
    }
    int[] letters = {0, 32, 59, 255};
    for (int letter : letters) {
      still(FULL_TAPE, FULL, "feed", letter);
    }
    D.scene("text: FULL, THE TAPE stays");
    still(SIX_TEXTS, FULL, "text");
    still(SIX_TEXTS_FAULT, FULL, "text");
    still(SIX_TEXTS_NO_TAPE, FULL, "text");
    D.due("count(4)", SIX_TEXTS.make().count(4), SHORT_TEXT.length());
    D.scene("force: BAD");
    int[] texts = {-1, 2, 6, MIN, MAX};
    for (int text : texts) {
      still(RICH, BAD, "force", text);
    }
    still(NEW, BAD, "force", 1);
    still(SIX_TEXTS, BAD, "force", 6);
  }

  private static void votesAndCuts() {
    D.scene("cut, graft: BAD, STATE");
    int[] bad = {0, -1, 9, 12, 32, 33, MIN, MAX};
    for (int node : bad) {
      still(RICH, BAD, "cut", node);
      still(RICH, BAD, "graft", node);
      still(NEW, BAD, "cut", node);
      still(NEW, BAD, "graft", node);
    }
    still(RICH, STATE, "cut", 3);
    still(RICH, STATE, "cut", 4);
    still(RICH, STATE, "cut", 8);
    still(RICH, STATE, "graft", 1);
    still(RICH, STATE, "graft", 4);
    still(RICH, STATE, "graft", 8);
    D.scene("minds, cuts: BAD, also where NONE could be meant");
    int[][] asked = {{-1, 0, 0}, {2, 0, 0}, {0, -1, 0}, {0, 2, 0}, {0, 0, -1}, {0, 0, 3}, {1, -1, 0}, {1, 2, 1}, {1, 0, -1},
      {1, 1, 3}, {MIN, 0, 0}, {1, MAX, 0}, {1, 0, MIN}};
    for (int[] a : asked) {
      still(RICH, BAD, "minds", a);
      still(RICH, BAD, "cuts", a);
      still(NEW, BAD, "minds", a);
      still(NEW, BAD, "cuts", a);
    }
    D.scene("minds, cuts: NONE");
    for (int sort = 0; sort <= 1; sort++) {
      for (int what = 0; what <= 2; what++) {
        still(NEW, NONE, "minds", 1, sort, what);
        still(NEW, NONE, "cuts", 1, sort, what);
        still(NEW, 0, "minds", 0, sort, what);
        still(NEW, 0, "cuts", 0, sort, what);
      }
    }
    D.scene("lopsided: BAD, NONE");
    int[] whats = {-1, 2, MIN, MAX};
    for (int what : whats) {
      still(RICH, BAD, "lopsided", what);
      still(NEW, BAD, "lopsided", what);
    }
    still(NEW, NONE, "lopsided", 0);
    still(NEW, 0, "lopsided", 1);
    D.scene("counts: BAD");
    int[] noTwigs = {0, 2, 3, 4, 7, 8, 9, 12, -2, 31, 32, 33, MIN, MAX};
    for (int node : noTwigs) {
      still(RICH, BAD, "counts", node);
    }
    still(NEW, BAD, "counts", 0);
    still(NEW, 1, "counts", NONE);
    still(TWELVE, BAD, "counts", 11);
  }

  private static void oddsAndTurns() {
    D.scene("sure: NO");
    int[][] bad = {{-1, 0}, {2, 0}, {0, -1}, {0, 2}, {1, -1}, {1, 2}, {MIN, 0}, {MAX, 1}, {0, MAX}, {1, MIN}};
    for (int[] b : bad) {
      still(RICH, NO, "sure", b);
      still(TWELVE, NO, "sure", b);
    }
    for (int sort = 0; sort <= 1; sort++) {
      still(TWELVE, NO, "sure", sort, 0);
      still(TWELVE, NO, "sure", sort, 1);
    }
    D.scene("prop: STATE, NONE");
    still(TWELVE, STATE, "prop");
    still(NEW, NONE, "prop");
    D.scene("turns: BAD, STATE, NONE, each ahead of the next");
    int[][] turns = {{-1, 0}, {5, 0}, {0, -1}, {0, 2}, {4, 2}, {MIN, 0}, {MAX, 1}, {1, MIN}, {1, MAX}};
    for (int[] t : turns) {
      still(RICH, BAD, "turns", t);
      still(TWELVE, BAD, "turns", t);
      still(NEW, BAD, "turns", t);
    }
    for (int n = 0; n <= 4; n++) {
      still(TWELVE, STATE, "turns", n, 0);
      still(TWELVE, STATE, "turns", n, 1);
      still(NEW, 0, "turns", n, 0);
      still(NEW, NONE, "turns", n, 1);
    }
    still(RICH, NONE, "turns", 0, 1);
  }

  private static Probe.Scene richWith(int... items) {
    return () -> {
      VotesOnTree x = rich();
      Dues.ints(x, 2, items);
      return x;
    };
  }

  private static void whoCut() {
    D.scene("whoCut: BAD, -11, BAD");
    int[][] bad = {{-1, 0}, {4, 0}, {0, -1}, {0, 2}, {3, -1}, {3, 2}, {4, 2}, {MIN, 0}, {MAX, 1}, {2, MIN}, {2, MAX}};
    for (int[] b : bad) {
      still(RICH, BAD, "whoCut", b);
      still(NEW, BAD, "whoCut", b);
    }
    for (int sheet = 0; sheet < 4; sheet++) {
      still(NEW, NOTHING, "whoCut", sheet, 0);
      still(NEW, NOTHING, "whoCut", sheet, 1);
    }
    still(RICH, NOTHING, "whoCut", 3, 0);
    int[][] none = {{0}, {0, 0, 0}, {9, 0}, {-1, 0}, {12, 2}, {0, 3}, {0, -1}, {1, 1, 0, 3}, {1, 1, 9, 0}, {MIN, 0}, {MAX, 0},
      {0, MIN}, {0, MAX}, {32, 0}, {65536, 0}};
    for (int[] items : none) {
      still(richWith(items), BAD, "whoCut", 2, 0);
      still(richWith(items), BAD, "whoCut", 2, 1);
    }
    D.scene("whoCut: BAD where NONE could be meant");
    still(richWith(0, 2, 0, 3), BAD, "whoCut", 2, 1);
    still(richWith(0, 2, 9, 0), BAD, "whoCut", 2, 1);
    still(richWith(0, 2, 0), BAD, "whoCut", 2, 1);
    D.scene("whoCut: NONE");
    still(richWith(0, 2), NONE, "whoCut", 2, 1);
    still(richWith(0, 2), 0, "whoCut", 2, 0);
    still(richWith(0, 1, 0, 0), NONE, "whoCut", 2, 1);
    still(richWith(3, 1), NONE, "whoCut", 2, 1);
  }

  private static void chanceBackCount() {
    D.scene("chance: NO");
    int[][] bad = {{0, 0, 0}, {0, -1, 0}, {0, 21, 0}, {0, 1, -1}, {0, 1, 2}, {0, 20, 2}, {0, 0, 2}, {7, MIN, 0}, {7, MAX, 1},
      {7, 1, MIN}, {7, 1, MAX}};
    for (int[] b : bad) {
      still(RICH, NO, "chance", b);
    }
    D.scene("back: STATE");
    still(NEW, STATE, "back");
    still(FULL_TAPE, STATE, "back");
    D.scene("count: BAD");
    int[] whats = {-1, 7, MIN, MAX};
    for (int what : whats) {
      still(RICH, BAD, "count", what);
    }
  }

  private static void sheetAndCell() {
    D.scene("sheet: BAD; -14");
    int[][] bad = {{-1, 0, 1}, {4, 0, 1}, {0, -2, 1}, {0, 3, 1}, {0, 0, 41}, {1, 1, 41}, {2, 2, 41}, {3, 0, MAX}, {MIN, 0, 0},
      {MAX, 0, 0}, {0, MIN, 0}, {0, MAX, 0}, {4, -1, 0}, {-1, -1, 0}};
    for (int[] b : bad) {
      still(RICH, BAD, "sheet", b);
    }
    for (int sort = 0; sort <= 2; sort++) {
      still(RICH, BELOW, "sheet", sort, sort, -1);
      still(RICH, BELOW, "sheet", 3, sort, MIN);
    }
    D.scene("sheet: BAD ahead of -14");
    still(RICH, BAD, "sheet", -1, 0, -1);
    still(RICH, BAD, "sheet", 4, 0, MIN);
    still(RICH, BAD, "sheet", 0, 3, -1);
    still(RICH, BAD, "sheet", 0, -2, -1);
    D.scene("cell: BAD; -11; -12");
    int[] none = {-1, 4, MIN, MAX};
    for (int sheet : none) {
      still(RICH, BAD, "cell", sheet, 0, 1);
      still(RICH, BAD, "cell", sheet, -1, 1);
    }
    int[] places = {0, -1, 40, MIN, MAX};
    for (int i : places) {
      still(RICH, NOTHING, "cell", 3, i, 1);
    }
    int[][] outside = {{0, -1}, {0, 6}, {1, 3}, {1, -1}, {2, 2}, {2, 40}, {0, MIN}, {0, MAX}};
    for (int[] o : outside) {
      still(RICH, OUTSIDE, "cell", o[0], o[1], 10);
    }
  }

  private static void copy() {
    D.scene("copy: BAD");
    int[][] bad = {{-1, 0, 0, 0, 1}, {4, 0, 0, 0, 1}, {0, 0, -1, 0, 1}, {0, 0, 4, 0, 1}, {MIN, 0, 0, 0, 0}, {0, 0, MAX, 0, 0}};
    for (int[] b : bad) {
      still(RICH, BAD, "copy", b);
    }
    D.scene("copy: BAD ahead of -11, -12");
    int[][] badToo = {{3, 0, 4, 0, 1}, {4, 0, 3, 0, 1}, {0, -1, 4, 0, 1}, {-1, 0, 0, 0, -1}};
    for (int[] b : badToo) {
      still(RICH, BAD, "copy", b);
    }
    D.scene("copy: -11, also ahead of -13, -12");
    int[][] nothing = {{3, 0, 0, 0, 1}, {0, 0, 3, 0, 1}, {3, 0, 3, 0, 0}, {3, 0, 0, 0, -1}, {0, -1, 3, 0, 1}, {2, 0, 3, 99, 1}};
    for (int[] n : nothing) {
      still(RICH, NOTHING, "copy", n);
    }
    D.scene("copy: -13, also ahead of -12");
    int[][] unlike = {{0, 0, 1, 0, 1}, {1, 0, 0, 0, 1}, {1, 0, 2, 0, 0}, {2, 0, 0, 0, 1}, {0, -1, 1, 0, 1}, {0, 0, 2, 0, -1}};
    for (int[] u : unlike) {
      still(RICH, OTHER_SORT, "copy", u);
    }
    D.scene("copy: -12");
    int[][] outside = {{0, -1, 0, 0, 1}, {0, 0, 0, -1, 1}, {0, 0, 0, 0, -1}, {0, 0, 0, 0, 7}, {0, 6, 0, 0, 1}, {0, 0, 0, 6, 1},
      {0, 3, 0, 0, 4}, {0, 0, 0, 3, 4}, {0, 7, 0, 0, 0}, {0, 0, 0, 7, 0}, {0, -1, 0, 0, 0}, {0, 0, 0, -1, 0}, {0, MAX, 0, 0, 1},
      {0, 0, 0, MAX, 1}, {0, 1, 0, 1, MAX}, {0, MAX, 0, MAX, MAX}, {0, MIN, 0, 0, 1}, {0, 0, 0, MIN, 1}, {0, 0, 0, 0, MIN},
      {0, MIN, 0, MIN, MIN}, {0, 1, 0, 1, -1}, {0, 6, 0, 6, -1}};
    for (int[] o : outside) {
      still(RICH, OUTSIDE, "copy", o);
    }
  }

  private static void nodes() {
    D.scene("nodes: BAD, also ahead of -13, -11, -12");
    int[][] bad = {{-1, 0, 0, 1}, {4, 0, 0, 1}, {0, -1, 0, 1}, {0, 3, 0, 1}, {0, 0, 0, -1}, {0, 0, 0, 13}, {0, 1, 0, 13},
      {0, 1, 0, -1}, {3, 0, 0, 13}, {3, 3, 0, 1}, {3, -1, 0, 0}, {0, 0, 99, 13}, {0, 0, -1, -1}, {MIN, 0, 0, 0}, {0, MAX, 0, 0},
      {0, 0, 0, MIN}, {0, 0, 0, MAX}};
    for (int[] b : bad) {
      still(RICH, BAD, "nodes", b);
    }
    D.scene("nodes: -13, also ahead of -12");
    int[][] unlike = {{0, 1, 0, 1}, {0, 2, 0, 0}, {1, 0, 0, 1}, {1, 2, 0, 1}, {2, 0, 0, 0}, {2, 1, 0, 1}, {0, 1, 99, 1},
      {0, 2, -1, 1}};
    for (int[] u : unlike) {
      still(RICH, OTHER_SORT, "nodes", u);
    }
    D.scene("nodes: -11, also ahead of -12; a missing one is of no other sort");
    for (int sort = 0; sort <= 2; sort++) {
      still(RICH, NOTHING, "nodes", 3, sort, 0, 0);
      still(RICH, NOTHING, "nodes", 3, sort, 0, 1);
      still(RICH, NOTHING, "nodes", 3, sort, -1, 12);
      still(RICH, NOTHING, "nodes", 3, sort, 99, 1);
    }
    D.scene("nodes: -12, nothing ahead of it");
    int[][] outside = {{0, 0, 4, 1}, {0, 0, 5, 1}, {0, 0, 6, 1}, {0, 0, -1, 1}, {0, 0, -3, 2}, {1, 1, 1, 1}, {2, 2, 0, 1},
      {0, 0, MAX, 1}, {0, 0, MAX - 1, 12}, {0, 0, MAX - 2, 12}, {0, 0, MIN, 12}, {0, 0, -36, 12}};
    for (int[] o : outside) {
      still(RICH, OUTSIDE, "nodes", o);
    }
    D.scene("nodes: what grow() refuses is left out");
    still(RICH, 0, "nodes", 0, 0, 0, 2);
    still(RICH, 0, "nodes", 0, 0, 0, 0);
    still(RICH, 0, "nodes", 0, 0, MIN, 0);
    still(RICH, 0, "nodes", 0, 0, MAX, 0);
  }

  private static void taken() {
    D.scene("taken: BAD; -11; -13");
    int[] kinds = {-1, 6, MIN, MAX};
    for (int k : kinds) {
      still(RICH, BAD, "taken", 0, k);
      still(RICH, BAD, "taken", 9, k);
      still(RICH, BAD, "taken", -1, k);
    }
    int[] none = {-1, 9, 12, MIN, MAX};
    for (int node : none) {
      still(RICH, NOTHING, "taken", node, 0);
      still(RICH, NOTHING, "taken", node, 5);
    }
    still(RICH, OTHER_SORT, "taken", 0, 1);
    still(RICH, OTHER_SORT, "taken", 8, 2);
    still(RICH, OTHER_SORT, "taken", 3, 3);
  }

  /** Calls that tell what is or might be: their answers stand in other tests, here they are but asked. */
  private static void asksWhatMightBe() {
    D.scene("asked, not done");
    String[] names = {"told", "asks", "law", "minds", "cuts", "lopsided", "counts", "sure", "prop", "turns", "whoCut", "drawn",
      "chance", "count", "taken"};
    int[][] args = {{6, 8}, {2, 0}, {}, {0, 1, 0}, {0, 1, 0}, {0}, {NONE}, {1, 0}, {}, {4, 1}, {2, 0}, {5}, {5, 20, 0}, {2}, {5, 1}};
    for (int i = 0; i < names.length; i++) {
      still(RICH, call(rich(), names[i], args[i]), names[i], args[i]);
    }
    still(RICH, call(rich(), "counts", 6), "counts", 6);
    still(RICH, call(rich(), "sure", 0, 0), "sure", 0, 0);
    still(RICH, call(rich(), "minds", 1, 0, 0), "minds", 1, 0, 0);
    still(RICH, call(rich(), "cuts", 1, 0, 0), "cuts", 1, 0, 0);
    still(RICH, call(rich(), "whoCut", 2, 1), "whoCut", 2, 1);
    still(RICH, 6, "copy", 0, 0, 0, 0, 6);
    still(RICH, 0, "copy", 0, 6, 0, 6, 0);
  }
}
