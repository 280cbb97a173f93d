/** Promises 26 to 30: sheet, cell, copy, nodes, taken. Sheets are read back through whoCut() and nodes(). */
public final class HostTest {
  private static final int BAD = VotesOnTree.BAD;
  private static final int MIN = Integer.MIN_VALUE, MAX = Integer.MAX_VALUE;
  private static final Dues D = new Dues();

  public static void main(String[] args) {
    sheetBecomesARow();
    sheetRefuses();
    cellWrites();
    cellRefuses();
    copyMoves();
    copyRefuses();
    nodesCome();
    nodesRefuse();
    takenByKind();
    D.end();
  }

  /** Whether items from, from + 1, from + 2 are as of a node that comes. */
  private static int comes(VotesOnTree x, int sheet, int sort, int from) {
    x.image();
    int came = x.nodes(sheet, sort, from, 1);
    x.back();
    return came;
  }

  private static void sheetBecomesARow() {
    D.scene("promise 26, ordinary");
    VotesOnTree x = new VotesOnTree();
    for (int sheet = 0; sheet < 4; sheet++) {
      for (int sort = 0; sort < 3; sort++) {
        D.due("sheet(" + sheet + ", " + sort + ", 40)", x.sheet(sheet, sort, 40), 1);
        D.due("cell(" + sheet + ", 39, 1)", x.cell(sheet, 39, 1), 1);
        D.due("cell(" + sheet + ", 40, 1)", x.cell(sheet, 40, 1), -12);
        D.due("nodes(" + sheet + ", " + sort + ", 0, 0)", x.nodes(sheet, sort, 0, 0), 0);
        D.due("nodes(" + sheet + ", other, 0, 0)", x.nodes(sheet, (sort + 1) % 3, 0, 0), -13);
      }
      D.due("sheet(" + sheet + ", 0, 0)", x.sheet(sheet, 0, 0), 1);
      D.due("cell(" + sheet + ", 0, 1)", x.cell(sheet, 0, 1), -12);
      D.due("sheet(" + sheet + ", -1, 99)", x.sheet(sheet, -1, 99), 1);
      D.due("cell(" + sheet + ", 0, 1)", x.cell(sheet, 0, 1), -11);
      D.due("sheet(" + sheet + ", -1, -99)", x.sheet(sheet, -1, -99), 1);
    }
    x.sheet(1, 2, 3);
    x.cell(1, 2, 5);
    D.due("no node by 0 0 5", comes(x, 1, 2, 0), 0);
    x.sheet(1, 2, 3);
    D.due("all are 0 again", comes(x, 1, 2, 0), 1);
    for (int i = 0; i < 40; i++) {
      x.sheet(1, 0, 40);
      x.cell(1, i, 99);
      x.sheet(1, 0, 40);
      D.due("item " + i + " is 0 again", comes(x, 1, 0, Math.min(i, 37)), 1);
    }
  }

  private static void sheetRefuses() {
    D.scene("promise 26, refusals");
    VotesOnTree x = new VotesOnTree();
    x.sheet(0, 1, 2);
    int[][] bad = {{-1, 0, 1}, {4, 0, 1}, {0, -2, 1}, {0, 3, 1}, {0, 0, 41}, {0, 0, MAX}, {4, 0, -1}, {0, 3, -1}, {MIN, 0, 1},
      {4, -1, 0}, {0, MAX, 1}};
    for (int[] b : bad) {
      D.due("sheet(" + b[0] + ", " + b[1] + ", " + b[2] + ")", x.sheet(b[0], b[1], b[2]), BAD);
    }
    D.due("sheet(0, 0, -1)", x.sheet(0, 0, -1), -14);
    D.due("sheet(0, 2, MIN)", x.sheet(0, 2, MIN), -14);
    D.due("nothing is changed: nodes(0, 1, 0, 0)", x.nodes(0, 1, 0, 0), 0);
    D.due("cell(0, 1, 0)", x.cell(0, 1, 0), 1);
  }

  private static void cellWrites() {
    D.scene("promise 27, ordinary");
    int[] wraps = {256, 65536, -256, 1 << 24};
    int[][] due = {{1, 1, 1, 1}, {0, 1, 0, 1}, {0, 0, 0, 0}};
    for (int sort = 0; sort < 3; sort++) {
      for (int i = 0; i < wraps.length; i++) {
        VotesOnTree x = new VotesOnTree();
        x.sheet(2, sort, 3);
        D.due("cell(2, 1, " + wraps[i] + ")", x.cell(2, 1, wraps[i]), 1);
        D.due("sort " + sort + ", is it 0", comes(x, 2, sort, 0), due[sort][i]);
      }
    }
    VotesOnTree x = new VotesOnTree();
    x.sheet(0, 0, 3);
    x.cell(0, 2, 91);
    x.cell(0, 1, 5);
    D.due("nodes(0, 0, 0, 1)", x.nodes(0, 0, 0, 1), 1);
    D.due("told(1, 0)", x.told(1, 0), 5);
    D.due("told(1, 1)", x.told(1, 1), 9);
    x.cell(0, 2, 255);
    D.due("a byte of 255 is none such", comes(x, 0, 0, 0), 0);
  }

  private static void cellRefuses() {
    D.scene("promise 27, refusals");
    VotesOnTree x = new VotesOnTree();
    x.sheet(0, 2, 2);
    D.due("cell(-1, 0, 0)", x.cell(-1, 0, 0), BAD);
    D.due("cell(4, 9, 0)", x.cell(4, 9, 0), BAD);
    D.due("cell(1, 9, 0)", x.cell(1, 9, 0), -11);
    D.due("cell(0, -1, 0)", x.cell(0, -1, 0), -12);
    D.due("cell(0, 2, 0)", x.cell(0, 2, 0), -12);
    D.due("cell(0, MAX, 0)", x.cell(0, MAX, 0), -12);
    D.due("cell(0, MIN, 0)", x.cell(0, MIN, 0), -12);
  }

  /** Looks at every item of a sheet of ints, in tens. */
  private static void itemsDue(VotesOnTree x, int sheet, int... due) {
    // Each item is looked at alone, as the NUMBER of a node that a scrap sheet tells.
    for (int i = 0; i < due.length; i++) {
      x.sheet(3, 2, 3);
      D.due("copy one item", x.copy(sheet, i, 3, 2, 1), 1);
      x.image();
      int came = x.nodes(3, 2, 0, 1);
      D.due("item " + i, came == 1 ? x.told(1, 1) : -99, due[i]);
      x.back();
    }
  }

  private static VotesOnTree rows() {
    VotesOnTree x = new VotesOnTree();
    Dues.ints(x, 0, 10, 20, 30, 40, 50);
    Dues.ints(x, 1, 60, 70, 80);
    return x;
  }

  private static void copyMoves() {
    D.scene("promise 28, ordinary");
    VotesOnTree x = rows();
    D.due("copy(0, 1, 1, 0, 2)", x.copy(0, 1, 1, 0, 2), 2);
    itemsDue(x, 1, 2, 3, 8);
    itemsDue(x, 0, 1, 2, 3, 4, 5);
    x = rows();
    D.due("to the right", x.copy(0, 0, 0, 1, 4), 4);
    itemsDue(x, 0, 1, 1, 2, 3, 4);
    x = rows();
    D.due("to the left", x.copy(0, 1, 0, 0, 4), 4);
    itemsDue(x, 0, 2, 3, 4, 5, 5);
    x = rows();
    D.due("all of it", x.copy(1, 0, 0, 2, 3), 3);
    itemsDue(x, 0, 1, 2, 6, 7, 8);
    D.due("none at the ends", x.copy(0, 5, 1, 3, 0), 0);
    x.sheet(2, 2, 0);
    D.due("none of none", x.copy(2, 0, 2, 0, 0), 0);
  }

  private static void copyRefuses() {
    D.scene("promise 28, refusals");
    VotesOnTree x = rows();
    x.sheet(2, 0, 5);
    int[][] bad = {{-1, 0, 0, 0, 1}, {4, 0, 0, 0, 1}, {0, 0, -1, 0, 1}, {0, 0, 4, 0, 1}, {3, 0, 4, 0, 1}, {4, 0, 3, 0, 1}};
    for (int[] b : bad) {
      D.due("copy " + java.util.Arrays.toString(b), x.copy(b[0], b[1], b[2], b[3], b[4]), BAD);
    }
    D.due("from a missing one", x.copy(3, 0, 0, 0, 99), -11);
    D.due("to a missing one", x.copy(0, 0, 3, 0, -1), -11);
    D.due("unlike sorts", x.copy(0, 0, 2, 0, 1), -13);
    D.due("unlike sorts, outside", x.copy(0, 0, 2, 0, 99), -13);
    int[][] outside = {{0, 0, 1, 0, -1}, {0, -1, 1, 0, 1}, {0, 0, 1, -1, 1}, {0, 3, 1, 0, 3}, {0, 0, 1, 1, 3}, {0, 6, 1, 0, 0},
      {0, 0, 1, 4, 0}, {0, MAX, 1, 0, 1}, {0, 1, 1, 0, MAX}, {0, 0, 1, MAX, MAX}, {0, MIN, 1, 0, MIN}, {0, 0, 1, 0, MIN}};
    for (int[] b : outside) {
      D.due("copy " + java.util.Arrays.toString(b), x.copy(b[0], b[1], b[2], b[3], b[4]), -12);
    }
    itemsDue(x, 1, 6, 7, 8);
  }

  private static void nodesCome() {
    D.scene("promise 29, ordinary");
    VotesOnTree x = new VotesOnTree();
    Dues.ints(x, 0, 0, 1, 11, 1, 2, 20, 9, 0, 0, 2, 5, 91);
    D.due("nodes(0, 2, 0, 4)", x.nodes(0, 2, 0, 4), 3);
    D.due("told(3, 5)", x.told(3, 5), 2);
    D.due("told(3, 0)", x.told(3, 0), 5);
    D.due("told(3, 1)", x.told(3, 1), 9);
    D.due("told(3, 2)", x.told(3, 2), 1);
    D.due("nodes(0, 2, 9, 1), by items", x.nodes(0, 2, 9, 1), 1);
    D.due("told(4, 0)", x.told(4, 0), 5);
    D.due("nodes(0, 2, 99, 0)", x.nodes(0, 2, 99, 0), 0);
    D.due("nodes(0, 2, -5, 0)", x.nodes(0, 2, -5, 0), 0);
    x.cut(1);
    D.due("parents that don't stand, all others of none such", x.nodes(0, 2, 3, 3), 0);
    VotesOnTree y = new VotesOnTree();
    y.sheet(0, 1, 36);
    D.due("12 forks of the trunk: the last is left out", y.nodes(0, 1, 0, 12), 11);
    D.due("full: all are left out", y.nodes(0, 1, 0, 12), 0);
  }

  private static void nodesRefuse() {
    D.scene("promise 29, refusals");
    VotesOnTree x = new VotesOnTree();
    x.sheet(0, 0, 8);
    int[][] bad = {{-1, 0, 0, 1}, {4, 0, 0, 1}, {0, -1, 0, 1}, {0, 3, 0, 1}, {0, 0, 0, -1}, {0, 0, 0, 13}, {1, 3, 0, 1},
      {1, 0, 0, 13}, {0, 1, 0, 13}};
    for (int[] b : bad) {
      D.due("nodes " + java.util.Arrays.toString(b), x.nodes(b[0], b[1], b[2], b[3]), BAD);
    }
    D.due("of another sort, outside", x.nodes(0, 1, 99, 1), -13);
    D.due("missing, outside", x.nodes(1, 1, 99, 1), -11);
    D.due("count(0)", x.count(0), 1);
    D.due("two came ahead", x.nodes(0, 0, 0, 3), -12);
    D.due("count(0)", x.count(0), 3);
    int[] from = {-1, -3, 6, 7, 8, MAX, MAX - 2, MIN};
    for (int f : from) {
      D.due("nodes(0, 0, " + f + ", 12)", x.nodes(0, 0, f, 12), -12);
    }
    D.due("count(0), none came ahead", x.count(0), 3);
  }

  private static void takenByKind() {
    D.scene("promise 30");
    boolean[][] due = {
      {true, false, false, false, false, false},
      {true, true, false, false, false, false},
      {true, false, true, false, false, false},
      {true, true, false, true, false, false},
      {true, false, true, false, true, false},
      {true, true, false, false, false, true}};
    VotesOnTree x = new VotesOnTree();
    for (int kind = 0; kind < 6; kind++) {
      x.grow(0, kind, 10 * (kind + 1));
    }
    for (int kind = 0; kind < 6; kind++) {
      for (int k = 0; k < 6; k++) {
        D.due("kind " + kind + ": taken(.., " + k + ")", x.taken(kind + 1, k), due[kind][k] ? kind + 1 : -13);
      }
    }
    x.cut(3);
    D.due("taken(3, 2), cut", x.taken(3, 2), 3);
    D.due("taken(0, 0)", x.taken(0, 0), 0);
    D.due("taken(0, 5)", x.taken(0, 5), -13);
    int[] badKinds = {-1, 6, MIN, MAX};
    for (int k : badKinds) {
      D.due("taken(0, " + k + ")", x.taken(0, k), BAD);
      D.due("taken(99, " + k + ")", x.taken(99, k), BAD);
    }
    int[] none = {-1, 7, 12, MIN, MAX};
    for (int node : none) {
      D.due("taken(" + node + ", 0)", x.taken(node, 0), -11);
    }
  }
}
