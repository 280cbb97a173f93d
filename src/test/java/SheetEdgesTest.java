/**
 * "SHEETS 0 .. 3 are rows of numbers, or missing": boundary cases of sheet, cell, copy, nodes and taken. An item is
 * looked at as the number that a NODE comes by: it is v, if v and no other makes the NODE.
 */
public final class SheetEdgesTest {
  private static final int BAD = VotesOnTree.BAD;
  private static final int NOTHING = -11, OUTSIDE = -12, OTHER_SORT = -13, BELOW = -14;
  private static final int MIN = Integer.MIN_VALUE, MAX = Integer.MAX_VALUE;
  private static final Dues D = new Dues();

  public static void main(String[] args) {
    missingAtFirst();
    sheetOfNoneAndOfForty();
    sheetIsAnew();
    cellsOfAllItems();
    lowestBits();
    copyOfNoneAndOfAll();
    copyOverItself();
    copyKeepsBits();
    nodesOfNoneAndOfTwelve();
    nodesThatAreLeftOut();
    nodesAheadOfTheEdge();
    nodesBelowNewOnes();
    takenOfEachKind();
    D.end();
  }

  /** Item i of a sheet as NUMBER and MIND of a NODE that comes by it; -1, if none does. The sheet ahead is scrap. */
  private static int item(VotesOnTree x, int sheet, int sort, int i) {
    int scrap = (sheet + 3) % 4;
    x.sheet(scrap, sort, 3);
    x.copy(sheet, i, scrap, 2, 1);
    x.image();
    int came = x.nodes(scrap, sort, 0, 1);
    int node = x.count(0) - 1;
    int v = came == 1 ? 10 * x.told(node, 1) + x.told(node, 2) : -1;
    x.back();
    return v;
  }

  private static void missingAtFirst() {
    D.scene("SHEETS 0 .. 3 are missing at first");
    for (int sheet = -1; sheet <= 4; sheet++) {
      VotesOnTree x = new VotesOnTree();
      boolean there = sheet >= 0 && sheet <= 3;
      int due = there ? NOTHING : BAD;
      D.due("cell(" + sheet + ", 0, 0)", x.cell(sheet, 0, 0), due);
      D.due("copy(" + sheet + ", 0, 0, 0, 0)", x.copy(sheet, 0, 0, 0, 0), due);
      D.due("copy(0, 0, " + sheet + ", 0, 0)", x.copy(0, 0, sheet, 0, 0), due);
      D.due("nodes(" + sheet + ", 0, 0, 0)", x.nodes(sheet, 0, 0, 0), due);
      D.due("whoCut(" + sheet + ", 0)", x.whoCut(sheet, 0), due);
      D.due("sheet(" + sheet + ", -1, 0)", x.sheet(sheet, -1, 0), there ? 1 : BAD);
      D.due("sheet(" + sheet + ", 0, 0)", x.sheet(sheet, 0, 0), there ? 1 : BAD);
      D.due("cell(" + sheet + ", 0, 0)", x.cell(sheet, 0, 0), there ? OUTSIDE : BAD);
      for (int other = 0; other <= 3; other++) {
        if (other != sheet) {
          D.due("others are missing still: cell(" + other + ", 0, 0)", x.cell(other, 0, 0), NOTHING);
        }
      }
    }
  }

  private static void sheetOfNoneAndOfForty() {
    D.scene("a row of n, 40 at most");
    for (int sort = 0; sort <= 2; sort++) {
      for (int n = 0; n <= 40; n++) {
        VotesOnTree x = new VotesOnTree();
        D.due("sheet(2, " + sort + ", " + n + ")", x.sheet(2, sort, n), 1);
        D.due("cell(2, -1, 1)", x.cell(2, -1, 1), OUTSIDE);
        D.due("cell(2, n, 1)", x.cell(2, n, 1), OUTSIDE);
        if (n > 0) {
          D.due("cell(2, 0, 1)", x.cell(2, 0, 1), 1);
          D.due("cell(2, n - 1, 1)", x.cell(2, n - 1, 1), 1);
        }
      }
      VotesOnTree x = new VotesOnTree();
      D.due("sheet(2, " + sort + ", 41)", x.sheet(2, sort, 41), BAD);
      D.due("sheet(2, " + sort + ", MAX)", x.sheet(2, sort, MAX), BAD);
      D.due("sheet(2, " + sort + ", -1)", x.sheet(2, sort, -1), BELOW);
      D.due("sheet(2, " + sort + ", MIN)", x.sheet(2, sort, MIN), BELOW);
      D.due("missing still: cell(2, 0, 0)", x.cell(2, 0, 0), NOTHING);
    }
    D.scene("missing: n does not matter");
    int[] sizes = {0, 1, 40, 41, -1, MIN, MAX};
    for (int n : sizes) {
      VotesOnTree x = new VotesOnTree();
      x.sheet(1, 0, 5);
      D.due("sheet(1, -1, " + n + ")", x.sheet(1, -1, n), 1);
      D.due("cell(1, 0, 0)", x.cell(1, 0, 0), NOTHING);
      D.due("missing already: sheet(1, -1, " + n + ")", x.sheet(1, -1, n), 1);
    }
  }

  private static void sheetIsAnew() {
    D.scene("a SHEET becomes a row, all 0, whatever it was");
    for (int was = 0; was <= 2; was++) {
      for (int sort = 0; sort <= 2; sort++) {
        VotesOnTree x = new VotesOnTree();
        x.sheet(1, was, 40);
        for (int i = 0; i < 40; i++) {
          x.cell(1, i, 91);
        }
        x.sheet(1, sort, 3);
        for (int other = 0; other <= 2; other++) {
          D.due("of one sort alone: nodes(1, " + other + ", 0, 0)", x.nodes(1, other, 0, 0), other == sort ? 0 : OTHER_SORT);
        }
        D.due("cell(1, 3, 0)", x.cell(1, 3, 0), OUTSIDE);
        for (int i = 0; i < 3; i++) {
          D.due("item " + i, item(x, 1, sort, i), 0);
        }
        x.sheet(1, sort, 40);
        for (int i = 0; i < 40; i += 3) {
          D.due("item " + i, item(x, 1, sort, i), 0);
        }
      }
    }
    VotesOnTree x = new VotesOnTree();
    x.sheet(1, 0, 2);
    x.cell(1, 0, 91);
    x.sheet(1, -1, 0);
    x.sheet(1, 0, 2);
    D.due("missing between: item 0", item(x, 1, 0, 0), 0);
  }

  private static void cellsOfAllItems() {
    D.scene("item i becomes v, and no other one");
    for (int sheet = 0; sheet <= 3; sheet++) {
      for (int at = 0; at < 40; at += 13) {
        VotesOnTree x = new VotesOnTree();
        for (int every = 0; every <= 3; every++) {
          x.sheet(every, 2, 40);
        }
        D.due("cell(" + sheet + ", " + at + ", 31)", x.cell(sheet, at, 31), 1);
        // The next two are looked at ahead of the sheet itself: looking at one makes scrap of the one ahead of it.
        for (int k = 2; k >= 0; k--) {
          int looked = (sheet + k) % 4;
          for (int i = 0; i < 40 && k != 1; i += 13) {
            D.due("sheet " + looked + ", item " + i, item(x, looked, 2, i), k == 0 && i == at ? 31 : 0);
          }
        }
      }
    }
  }

  private static void lowestBits() {
    D.scene("of bytes, shorts its lowest 8, 16 bits");
    int[] high = {0, 1 << 7, 1 << 8, 1 << 15, 1 << 16, 1 << 24, MIN, 0xFF00, 0xFFFF0000, 0xFFFFFF00};
    int[] kept = {0xFF, 0xFFFF, 0xFFFFFFFF};
    for (int sort = 0; sort <= 2; sort++) {
      for (int h : high) {
        VotesOnTree x = new VotesOnTree();
        x.sheet(1, sort, 1);
        D.due("cell(1, 0, " + (h | 41) + ")", x.cell(1, 0, h | 41), 1);
        D.due("sort " + sort + ", " + h + " and 41: item 0", item(x, 1, sort, 0), (h & kept[sort]) == 0 ? 41 : -1);
      }
    }
    int[] minus = {-1, MAX, 255, 65535};
    for (int v : minus) {
      VotesOnTree x = new VotesOnTree();
      x.sheet(1, 0, 1);
      x.cell(1, 0, v);
      D.due("a byte of " + v + " is no NODE's", item(x, 1, 0, 0), -1);
    }
  }

  private static void rowIs(VotesOnTree x, int sheet, int... due) {
    for (int i = 0; i < due.length; i++) {
      D.due("item " + i + " of " + sheet, item(x, sheet, 2, i), due[i]);
    }
  }

  private static VotesOnTree rows() {
    VotesOnTree x = new VotesOnTree();
    Dues.ints(x, 1, 10, 20, 30, 40, 50);
    Dues.ints(x, 3, 60, 70, 80);
    return x;
  }

  private static void copyOfNoneAndOfAll() {
    D.scene("n numbers come: none, one, all");
    for (int i = 0; i <= 5; i++) {
      for (int j = 0; j <= 3; j++) {
        VotesOnTree x = rows();
        D.due("none: copy(1, " + i + ", 3, " + j + ", 0)", x.copy(1, i, 3, j, 0), 0);
        D.due("one: copy(1, " + i + ", 3, " + j + ", 1)", x.copy(1, i, 3, j, 1), i < 5 && j < 3 ? 1 : OUTSIDE);
        x = rows();
        int most = Math.min(5 - i, 3 - j);
        D.due("one too many: copy", x.copy(1, i, 3, j, most + 1), OUTSIDE);
        rowIs(x, 3, 60, 70, 80);
        D.due("as many as can be: copy", x.copy(1, i, 3, j, most), most);
        int[] due = {60, 70, 80};
        for (int k = 0; k < most; k++) {
          due[j + k] = 10 * (i + k + 1);
        }
        rowIs(x, 3, due);
        rowIs(x, 1, 10, 20, 30, 40, 50);
      }
    }
    VotesOnTree x = new VotesOnTree();
    x.sheet(0, 0, 40);
    x.sheet(1, 0, 40);
    x.sheet(2, 0, 0);
    x.cell(0, 39, 91);
    D.due("40: copy(0, 0, 1, 0, 40)", x.copy(0, 0, 1, 0, 40), 40);
    D.due("41: copy(0, 0, 1, 0, 41)", x.copy(0, 0, 1, 0, 41), OUTSIDE);
    D.due("copy(0, 40, 1, 40, 0)", x.copy(0, 40, 1, 40, 0), 0);
    D.due("copy(0, 41, 1, 40, 0)", x.copy(0, 41, 1, 40, 0), OUTSIDE);
    D.due("of a row of none: copy(2, 0, 0, 40, 0)", x.copy(2, 0, 0, 40, 0), 0);
    D.due("of a row of none: copy(2, 0, 0, 0, 1)", x.copy(2, 0, 0, 0, 1), OUTSIDE);
    D.due("to a row of none: copy(0, 0, 2, 0, 1)", x.copy(0, 0, 2, 0, 1), OUTSIDE);
    D.due("the 40th came", item(x, 1, 0, 39), 91);
  }

  private static void copyOverItself() {
    D.scene("(as they were), also over one another");
    for (int i = 0; i <= 4; i++) {
      for (int j = 0; j <= 4; j++) {
        int n = 5 - Math.max(i, j);
        VotesOnTree x = rows();
        D.due("copy(1, " + i + ", 1, " + j + ", " + n + ")", x.copy(1, i, 1, j, n), n);
        int[] due = {10, 20, 30, 40, 50};
        for (int k = 0; k < n; k++) {
          due[j + k] = 10 * (i + k + 1);
        }
        rowIs(x, 1, due);
      }
    }
  }

  private static void copyKeepsBits() {
    D.scene("numbers come as they were, below 0 and great ones too");
    int[] values = {-1, MIN, MAX, 256, 65536};
    for (int v : values) {
      VotesOnTree x = new VotesOnTree();
      Dues.ints(x, 0, 0, v, 5);
      Dues.ints(x, 1, 0, 0, 0);
      x.copy(0, 1, 1, 1, 1);
      D.due(v + " is no KIND there either: nodes(1, 2, 0, 1)", x.nodes(1, 2, 0, 1), 0);
      x.copy(0, 0, 1, 1, 1);
      D.due("but 0 is: nodes(1, 2, 0, 1)", x.nodes(1, 2, 0, 1), 1);
    }
  }

  private static void nodesOfNoneAndOfTwelve() {
    D.scene("n of them (0 .. 12)");
    for (int sort = 0; sort <= 2; sort++) {
      for (int n = 0; n <= 12; n++) {
        VotesOnTree x = new VotesOnTree();
        x.sheet(0, sort, 36);
        D.due("nodes(0, " + sort + ", 0, " + n + ")", x.nodes(0, sort, 0, n), Math.min(n, 11));
        D.due("count(0)", x.count(0), 1 + Math.min(n, 11));
      }
      VotesOnTree x = new VotesOnTree();
      x.sheet(0, sort, 40);
      D.due("nodes(0, " + sort + ", 0, 13)", x.nodes(0, sort, 0, 13), BAD);
      D.due("nodes(0, " + sort + ", 0, -1)", x.nodes(0, sort, 0, -1), BAD);
      D.due("up to the 40th: nodes(0, " + sort + ", 4, 12)", x.nodes(0, sort, 4, 12), 11);
    }
    VotesOnTree x = new VotesOnTree();
    x.sheet(0, 0, 40);
    D.due("one beyond the 40th: nodes(0, 0, 5, 12)", x.nodes(0, 0, 5, 12), OUTSIDE);
    D.due("what stood ahead came: count(0)", x.count(0), 12);
    x.sheet(0, 0, 0);
    D.due("none of a row of none: nodes(0, 0, 0, 0)", x.nodes(0, 0, 0, 0), 0);
    D.due("one of a row of none: nodes(0, 0, 0, 1)", x.nodes(0, 0, 0, 1), OUTSIDE);
  }

  private static void nodesThatAreLeftOut() {
    D.scene("others are left out: each refusal of grow()");
    VotesOnTree x = new VotesOnTree();
    x.grow(0, 0, 0);
    x.cut(1);
    int[] items = {1, 0, 0, 0, 6, 0, 0, -1, 0, 0, 0, 2, 0, 0, 92, 0, 0, -1, 2, 0, 0, -1, 0, 0, 0, 5, 91, 12, 0, 0, MIN, MAX, MIN};
    Dues.ints(x, 0, items);
    D.due("nodes(0, 2, 0, 11)", x.nodes(0, 2, 0, 11), 1);
    int[] due = {5, 9, 1, 50, 0, 0, 1, 1, 1};
    for (int what = 0; what < due.length; what++) {
      D.due("told(2, " + what + ")", x.told(2, what), due[what]);
    }
    D.due("count(0)", x.count(0), 3);
    VotesOnTree full = new VotesOnTree();
    full.sheet(0, 0, 36);
    full.nodes(0, 0, 0, 10);
    D.due("room for one: nodes(0, 0, 0, 12)", full.nodes(0, 0, 0, 12), 1);
    D.due("full: nodes(0, 0, 0, 12)", full.nodes(0, 0, 0, 12), 0);
    D.due("full, and outside: nodes(0, 0, 3, 12)", full.nodes(0, 0, 3, 12), OUTSIDE);
  }

  private static void nodesAheadOfTheEdge() {
    D.scene("-12: what stood ahead came");
    for (int size = 0; size <= 9; size++) {
      for (int from = 0; from <= size + 1; from++) {
        VotesOnTree x = new VotesOnTree();
        x.sheet(0, 1, size);
        int whole = Math.max(0, size - from) / 3;
        D.due(size + " items: nodes(0, 1, " + from + ", " + whole + ")", x.nodes(0, 1, from, whole), whole);
        D.due("count(0)", x.count(0), 1 + whole);
        D.due("one more: nodes", x.nodes(0, 1, from, whole + 1), OUTSIDE);
        D.due("count(0)", x.count(0), 1 + 2 * whole);
      }
    }
    int[] far = {-1, -2, -3, -36, MIN, MAX, MAX - 1, MAX - 2, MAX - 35};
    for (int from : far) {
      VotesOnTree x = new VotesOnTree();
      x.sheet(0, 1, 40);
      D.due("nodes(0, 1, " + from + ", 12)", x.nodes(0, 1, from, 12), OUTSIDE);
      D.due("nothing came: count(0)", x.count(0), 1);
      D.due("none of them: nodes(0, 1, " + from + ", 0)", x.nodes(0, 1, from, 0), 0);
    }
  }

  private static void nodesBelowNewOnes() {
    D.scene("a NODE may come from one that came ahead of it");
    VotesOnTree x = new VotesOnTree();
    int[] items = new int[36];
    for (int i = 0; i < 12; i++) {
      items[3 * i] = i;
      items[3 * i + 1] = i % 6;
      items[3 * i + 2] = 10 * (i % 10) + i % 2;
    }
    Dues.ints(x, 0, items);
    D.due("nodes(0, 2, 0, 12)", x.nodes(0, 2, 0, 12), 11);
    for (int node = 1; node < 12; node++) {
      D.due("told(" + node + ", 5)", x.told(node, 5), node - 1);
      D.due("told(" + node + ", 0)", x.told(node, 0), (node - 1) % 6);
      D.due("told(" + node + ", 1)", x.told(node, 1), (node - 1) % 10);
      D.due("told(" + node + ", 2)", x.told(node, 2), (node - 1) % 2);
    }
    VotesOnTree y = new VotesOnTree();
    Dues.ints(y, 0, 1, 0, 0, 0, 0, 0, 1, 0, 0);
    D.due("but not from one that comes later: nodes(0, 2, 0, 3)", y.nodes(0, 2, 0, 3), 2);
    D.due("told(2, 5)", y.told(2, 5), 1);
  }

  private static void takenOfEachKind() {
    D.scene("a NODE taken for one of KIND k, or one under that one (also by others between)");
    int[] under = {-1, 0, 0, 1, 2, 1};
    VotesOnTree x = new VotesOnTree();
    for (int kind = 0; kind < 6; kind++) {
      x.grow(0, kind, 90 - 10 * kind);
    }
    for (int kind = 0; kind < 6; kind++) {
      for (int k = 0; k < 6; k++) {
        int at = kind;
        while (at != k && at >= 0) {
          at = under[at];
        }
        D.due("kind " + kind + ": taken(" + (kind + 1) + ", " + k + ")", x.taken(kind + 1, k), at == k ? 9 - kind : OTHER_SORT);
      }
      x.set(0, kind + 1, 0);
      D.due("NUMBER 0: taken(" + (kind + 1) + ", 0)", x.taken(kind + 1, 0), 0);
    }
    D.due("the trunk is a FORK", x.taken(0, 0), 0);
    D.due("taken(0, 1)", x.taken(0, 1), OTHER_SORT);
    x.cut(6);
    x.set(0, 6, 7);
    D.due("one that doesn't stand: taken(6, 1)", x.taken(6, 1), 7);
    D.due("taken(7, 0)", x.taken(7, 0), NOTHING);
    D.due("taken(-1, 0)", x.taken(-1, 0), NOTHING);
    D.due("taken(7, 6)", x.taken(7, 6), BAD);
    D.due("taken(7, -1)", x.taken(7, -1), BAD);
    x.image();
    x.grow(0, 0, 0);
    x.back();
    D.due("one that went again: taken(7, 0)", x.taken(7, 0), NOTHING);
  }
}
