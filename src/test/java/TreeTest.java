/** Promises 1 to 5: a new object, grow, set, told, asks. */
public final class TreeTest {
  private static final int BAD = VotesOnTree.BAD, STATE = VotesOnTree.STATE, FULL = VotesOnTree.FULL, NONE = VotesOnTree.NONE;
  private static final int FORK = 0, HOLLOW = 1, MISTLE = 2, SPLIT = 3, TWINS = 4, GRAFTED = 5;
  private static final Dues D = new Dues();

  public static void main(String[] args) {
    newObject();
    growAnswersNumbers();
    growRefuses();
    growRefusesInOrder();
    growAfterBackIsFresh();
    setAnswersWhatWas();
    setRefuses();
    toldOfANode();
    toldWeighs();
    toldGoesWhenEven();
    toldOfWhatDoesNotStand();
    asksByTheFirstRule();
    asksEachName();
    asksRefuses();
    D.end();
  }

  private static void newObject() {
    D.scene("promise 1");
    VotesOnTree x = new VotesOnTree();
    int[] counts = {1, 1, 0, 1, 0, 0, 0};
    for (int what = 0; what < counts.length; what++) {
      D.due("count(" + what + ")", x.count(what), counts[what]);
    }
    int[] trunk = {0, 0, 0, 50, 0, NONE, 1, 0, 0, 1};
    for (int what = 0; what < trunk.length; what++) {
      D.due("told(0, " + what + ")", x.told(0, what), trunk[what]);
    }
    D.due("law()", x.law(), 0);
    D.due("back()", x.back(), STATE);
    for (int sheet = 0; sheet < 4; sheet++) {
      D.due("cell(" + sheet + ", 0, 0)", x.cell(sheet, 0, 0), -11);
    }
  }

  private static void growAnswersNumbers() {
    D.scene("promise 2, ordinary");
    VotesOnTree x = new VotesOnTree();
    D.due("grow(0, 3, 91)", x.grow(0, SPLIT, 91), 1);
    D.due("grow(1, 5, 0)", x.grow(1, GRAFTED, 0), 2);
    D.due("grow(1, 0, 90)", x.grow(1, FORK, 90), 3);
    D.due("grow(0, 4, 1)", x.grow(0, TWINS, 1), 4);
    int[][] due = {{3, 9, 1, 50, 0, 0}, {5, 0, 0, 50, 0, 1}, {0, 9, 0, 50, 0, 1}, {4, 0, 1, 50, 0, 0}};
    for (int node = 1; node <= 4; node++) {
      for (int what = 0; what <= 5; what++) {
        D.due("told(" + node + ", " + what + ")", x.told(node, what), due[node - 1][what]);
      }
    }
  }

  private static void growRefuses() {
    D.scene("promise 2, BAD");
    VotesOnTree x = Dues.oak(0, 0, 0);
    int[][] bad = {{-1, 0, 0}, {2, 0, 0}, {12, 0, 0}, {Integer.MAX_VALUE, 0, 0}, {Integer.MIN_VALUE, 0, 0},
      {0, -1, 0}, {0, 6, 0}, {0, Integer.MIN_VALUE, 0}, {0, 0, -1}, {0, 0, 2}, {0, 0, 9}, {0, 0, 12}, {0, 0, 92},
      {0, 0, 100}, {0, 0, 101}, {0, 0, -10}, {0, 0, -9}, {0, 0, Integer.MAX_VALUE}, {0, 0, Integer.MIN_VALUE}};
    for (int[] b : bad) {
      D.due("grow(" + b[0] + ", " + b[1] + ", " + b[2] + ")", x.grow(b[0], b[1], b[2]), BAD);
    }
    D.due("count(0)", x.count(0), 2);
  }

  private static void growRefusesInOrder() {
    D.scene("promise 2, STATE and FULL");
    VotesOnTree x = Dues.oak(0, 0, 0, 1, 0, 0);
    x.cut(1);
    D.due("grow(1, 0, 0), cut", x.grow(1, 0, 0), STATE);
    D.due("grow(2, 0, 0), parent cut", x.grow(2, 0, 0), STATE);
    D.due("grow(2, 6, 0)", x.grow(2, 6, 0), BAD);
    for (int i = 3; i < 12; i++) {
      D.due("grow(0, 0, 0)", x.grow(0, 0, 0), i);
    }
    D.due("grow(0, 0, 0), the 13th", x.grow(0, 0, 0), FULL);
    D.due("grow(1, 0, 0), cut and full", x.grow(1, 0, 0), STATE);
    D.due("grow(0, 0, 2), full", x.grow(0, 0, 2), BAD);
    D.due("grow(12, 0, 0), full", x.grow(12, 0, 0), BAD);
    D.due("count(0)", x.count(0), 12);
  }

  private static void growAfterBackIsFresh() {
    D.scene("promise 2, a number used again");
    VotesOnTree x = new VotesOnTree();
    x.image();
    x.grow(0, TWINS, 91);
    x.grow(1, HOLLOW, 1);
    x.set(2, 1, 3);
    x.set(3, 1, 1);
    x.set(3, 2, 1);
    x.cut(1);
    x.back();
    D.due("grow(0, 2, 10)", x.grow(0, MISTLE, 10), 1);
    D.due("grow(0, 1, 0)", x.grow(0, HOLLOW, 0), 2);
    int[] due = {2, 1, 0, 50, 0, 0, 1, 1, 0, 2};
    for (int what = 0; what < due.length; what++) {
      D.due("told(1, " + what + ")", x.told(1, what), due[what]);
    }
    D.due("told(2, 5)", x.told(2, 5), 0);
    D.due("cut(1)", x.cut(1), 1);
    D.due("asks(2, 1)", x.asks(2, 1), 5);
  }

  private static void setAnswersWhatWas() {
    D.scene("promise 3, ordinary");
    VotesOnTree x = Dues.oak(0, 0, 71);
    D.due("set(0, 1, 9)", x.set(0, 1, 9), 7);
    D.due("set(0, 1, 0)", x.set(0, 1, 0), 9);
    D.due("told(1, 1)", x.told(1, 1), 0);
    D.due("set(1, 1, 0)", x.set(1, 1, 0), 1);
    D.due("set(1, 1, 1)", x.set(1, 1, 1), 0);
    D.due("told(1, 2)", x.told(1, 2), 1);
    D.due("set(2, 1, 100)", x.set(2, 1, 100), 50);
    D.due("set(2, 1, 0)", x.set(2, 1, 0), 100);
    D.due("told(1, 3)", x.told(1, 3), 0);
    D.due("set(3, 1, 1)", x.set(3, 1, 1), 0);
    D.due("set(3, 1, 1)", x.set(3, 1, 1), 1);
    D.due("told(1, 4)", x.told(1, 4), 1);
    D.due("told(0, 4)", x.told(0, 4), 0);
    D.due("set(4, -77, 99)", x.set(4, -77, 99), 0);
    D.due("set(4, 50, 0)", x.set(4, 50, 0), 99);
    D.due("count(6)", x.count(6), 0);
    D.due("set(1, 0, 1)", x.set(1, 0, 1), 0);
    D.due("told(0, 2)", x.told(0, 2), 1);
    x.cut(1);
    D.due("set(0, 1, 5), cut", x.set(0, 1, 5), 0);
  }

  private static void setRefuses() {
    D.scene("promise 3, BAD");
    VotesOnTree x = Dues.oak(0, 0, 71);
    int[][] bad = {{-1, 0, 0}, {5, 0, 0}, {0, -1, 0}, {0, 2, 0}, {1, 2, 0}, {2, 2, 0}, {3, -1, 0}, {0, 1, -1}, {0, 1, 10},
      {1, 1, -1}, {1, 1, 2}, {2, 1, -1}, {2, 1, 101}, {3, 1, -1}, {3, 1, 2}, {4, 0, -1}, {4, 0, 100},
      {Integer.MIN_VALUE, 0, 0}, {0, Integer.MAX_VALUE, 0}};
    for (int[] b : bad) {
      D.due("set(" + b[0] + ", " + b[1] + ", " + b[2] + ")", x.set(b[0], b[1], b[2]), BAD);
    }
    int[] due = {0, 7, 1, 50, 0};
    for (int what = 0; what < due.length; what++) {
      D.due("told(1, " + what + ")", x.told(1, what), due[what]);
    }
    D.due("count(6)", x.count(6), 0);
  }

  private static void toldOfANode() {
    D.scene("promise 4, ordinary");
    VotesOnTree x = Dues.oak(0, MISTLE, 31, 1, FORK, 0, 1, FORK, 1, 1, FORK, 1);
    int[] due = {2, 3, 1, 50, 0, 0, 1, 0, 1, 2};
    for (int what = 0; what < due.length; what++) {
      D.due("told(1, " + what + ")", x.told(1, what), due[what]);
    }
    D.due("told(2, 7)", x.told(2, 7), 1);
    D.due("told(2, 8)", x.told(2, 8), 0);
    D.due("told(3, 8)", x.told(3, 8), 1);
    D.due("told(0, 8)", x.told(0, 8), 1);
    int[][] bad = {{-1, 0}, {5, 0}, {12, 0}, {0, -1}, {0, 10}, {Integer.MAX_VALUE, 0}, {0, Integer.MIN_VALUE}};
    for (int[] b : bad) {
      D.due("told(" + b[0] + ", " + b[1] + ")", x.told(b[0], b[1]), BAD);
    }
  }

  private static void toldWeighs() {
    D.scene("promise 4, WEIGHS of a node of NUMBER 2 by its kids");
    int[][] due = {{1, 1, 1, 1, 1, 1}, {1, 1, 1, 0, 0, 0}, {2, 2, 2, 2, 2, 2}, {1, 1, 2, 1, 2, 2}, {4, 4, 4, 4, 4, 4},
      {1, 1, 1, 1, 1, 1}};
    for (int kind = FORK; kind <= GRAFTED; kind++) {
      VotesOnTree x = Dues.oak(0, kind, 20);
      for (int kids = 0; kids < 6; kids++) {
        D.due("kind " + kind + ", " + kids + " kids: told(1, 9)", x.told(1, 9), due[kind][kids]);
        x.grow(1, FORK, 0);
      }
      x.cut(2);
      x.cut(3);
      x.cut(4);
      D.due("kind " + kind + ", 3 kids left: told(1, 9)", x.told(1, 9), due[kind][3]);
    }
  }

  private static void toldGoesWhenEven() {
    D.scene("promise 4, how an even node goes");
    for (int last = 0; last <= 1; last++) {
      for (int number = 0; number <= 1; number++) {
        int[] due = {last, 0, 1 - last, number, 1 - last, 1 - last};
        for (int kind = FORK; kind <= GRAFTED; kind++) {
          VotesOnTree x = Dues.oak(0, kind, 10 * number, 1, FORK, 0, 1, FORK, 1);
          x.set(3, 1, last);
          D.due("kind " + kind + ", NUMBER " + number + ", LAST " + last + ": told(1, 8)", x.told(1, 8), due[kind]);
          D.due("kind " + kind + ": told(2, 8)", x.told(2, 8), 0);
          D.due("kind " + kind + ": told(3, 8)", x.told(3, 8), 1);
          D.due("kind " + kind + ": told(0, 8)", x.told(0, 8), x.told(1, 9) == 0 ? 0 : due[kind]);
        }
      }
    }
    VotesOnTree x = Dues.oak(0, SPLIT, 90, 1, FORK, 1, 1, FORK, 0);
    D.due("SPLIT of NUMBER 9: told(1, 8)", x.told(1, 8), 1);
    x.set(0, 1, 8);
    D.due("SPLIT of NUMBER 8: told(1, 8)", x.told(1, 8), 0);
  }

  private static void toldOfWhatDoesNotStand() {
    D.scene("promise 4, nodes that don't stand");
    VotesOnTree x = Dues.oak(0, TWINS, 11, 1, MISTLE, 21);
    x.cut(1);
    for (int node = 1; node <= 2; node++) {
      D.due("told(" + node + ", 5)", x.told(node, 5), node - 1);
      D.due("told(" + node + ", 6)", x.told(node, 6), 0);
      D.due("told(" + node + ", 7)", x.told(node, 7), 0);
      D.due("told(" + node + ", 8)", x.told(node, 8), NONE);
      D.due("told(" + node + ", 9)", x.told(node, 9), 0);
      D.due("told(" + node + ", 1)", x.told(node, 1), node);
    }
    x.graft(1);
    x.cut(2);
    D.due("told(1, 7), its only kid cut", x.told(1, 7), 1);
    D.due("told(1, 8), by its mind", x.told(1, 8), 1);
    x.cut(1);
    D.due("told(0, 7), no kids", x.told(0, 7), 0);
    x.set(1, 0, 1);
    D.due("told(0, 8), by LAST and not by its mind", x.told(0, 8), 0);
    x.set(0, 0, 9);
    D.due("told(0, 9)", x.told(0, 9), 1);
  }

  private static void asksByTheFirstRule() {
    D.scene("promise 5, TEXT 0");
    VotesOnTree x = Dues.oak(0, 0, 0, 1, 0, 0, 1, 0, 0, 3, 0, 0, 4, 0, 0);
    int[] twigs = {2, 2, 1, 1, 1, 1};
    int[] depth = {0, 1, 2, 2, 3, 4};
    for (int node = 0; node < 6; node++) {
      D.due("asks(" + node + ", 0)", x.asks(node, 0), twigs[node] * 3 + 1);
      D.due("asks(" + node + ", 1)", x.asks(node, 1), depth[node] * 5);
      D.due("asks(" + node + ", 2)", x.asks(node, 2), 1);
    }
    D.due("asks(0, 0) of a trunk with one twig", Dues.oak(0, 0, 0).asks(0, 0), 4);
    D.due("asks(0, 0) of a trunk alone", new VotesOnTree().asks(0, 0), 1);
  }

  private static void asksEachName() {
    D.scene("promise 5, names and bounds");
    VotesOnTree x = Dues.oak(0, 0, 0, 1, 0, 0, 1, 0, 0, 1, 0, 0);
    Dues.rule(x, "costs node*10+kids; falls last*50+year; worth 100;");
    x.set(3, 1, 1);
    x.set(4, 0, 7);
    D.due("asks(1, 0)", x.asks(1, 0), 13);
    D.due("asks(4, 0)", x.asks(4, 0), 40);
    D.due("asks(1, 1)", x.asks(1, 1), 57);
    D.due("asks(2, 1)", x.asks(2, 1), 7);
    D.due("asks(2, 2), above the bound", x.asks(2, 2), 99);
    x.cut(3);
    D.due("asks(1, 0), a kid cut", x.asks(1, 0), 12);
    Dues.rule(x, "costs 100; falls 101; worth 0-1;");
    D.due("asks(1, 0)", x.asks(1, 0), 99);
    D.due("asks(1, 1)", x.asks(1, 1), 100);
    D.due("asks(1, 2)", x.asks(1, 2), 0);
    Dues.rule(x, "costs -node; falls 0-1; worth 99;");
    D.due("asks(1, 0)", x.asks(1, 0), 0);
    D.due("asks(1, 1)", x.asks(1, 1), 0);
    D.due("asks(1, 2)", x.asks(1, 2), 99);
    Dues.rule(x, "costs twigs; falls depth; worth 9999*9999;");
    D.due("asks(0, 0)", x.asks(0, 0), 2);
    D.due("asks(1, 0)", x.asks(1, 0), 2);
    D.due("asks(2, 0)", x.asks(2, 0), 1);
    D.due("asks(4, 1)", x.asks(4, 1), 2);
    D.due("asks(4, 2)", x.asks(4, 2), 99);
  }

  private static void asksRefuses() {
    D.scene("promise 5, refusals");
    VotesOnTree x = Dues.oak(0, 0, 0, 1, 0, 0);
    x.cut(1);
    int[][] bad = {{-1, 0}, {3, 0}, {0, -1}, {0, 3}, {1, 3}, {Integer.MIN_VALUE, 1}, {0, Integer.MAX_VALUE}};
    for (int[] b : bad) {
      D.due("asks(" + b[0] + ", " + b[1] + ")", x.asks(b[0], b[1]), BAD);
    }
    D.due("asks(1, 0)", x.asks(1, 0), STATE);
    D.due("asks(2, 2)", x.asks(2, 2), STATE);
  }
}
