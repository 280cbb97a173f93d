import java.math.BigInteger;

/**
 * The document's sentences under "Terms" that name a boundary case, in their order: nodes, kinds, votes, sets, odds,
 * turns, draws, images. The sentences on texts stand in TextEdgesTest, those on sheets in SheetEdgesTest, refusals
 * in RefusalsTest.
 */
public final class EdgesTest {
  private static final int NONE = VotesOnTree.NONE, BAD = VotesOnTree.BAD, STATE = VotesOnTree.STATE, FULL = VotesOnTree.FULL;
  private static final long NO = VotesOnTree.NO;
  private static final int FORK = 0, HOLLOW = 1, MISTLE = 2, SPLIT = 3, TWINS = 4, GRAFTED = 5;
  private static final int MIN = Integer.MIN_VALUE, MAX = Integer.MAX_VALUE;
  private static final Dues D = new Dues();

  public static void main(String[] args) {
    twelveNodes();
    allThatIsSetAtFirst();
    standsByItsParent();
    twigs();
    setFromLeastToMost();
    weighsOfEveryNumber();
    weightsInAVote();
    evenOfEveryNumber();
    namesFromLeastToMost();
    yearsPass();
    mindsOfNoneAndOfAll();
    cutsOfNoneAndOfAll();
    lopsidedOfNoneAndOfAll();
    countsOfNoneAndOfAll();
    sureOfNoneAndOfEight();
    stormOfNoneAndOfEight();
    propOfNoneAndOfEight();
    turnsOfNoneAndOfSix();
    whoCutOfNoneAndOfAll();
    drawnOfNoneAndOfAll();
    seedsThatWrap();
    imageOfOneAndOfTwelve();
    imageKeepsEachThing();
    imageLeavesTheRest();
    D.end();
  }

  private static VotesOnTree chain(int nodes) {
    VotesOnTree x = new VotesOnTree();
    for (int i = 1; i < nodes; i++) {
      x.grow(i - 1, FORK, 0);
    }
    return x;
  }

  private static VotesOnTree star(int kids, int kind, int what) {
    VotesOnTree x = new VotesOnTree();
    for (int i = 0; i < kids; i++) {
      x.grow(0, kind, what);
    }
    return x;
  }

  private static void twelveNodes() {
    D.scene("NODES (12 at most, numbered from 0)");
    VotesOnTree x = new VotesOnTree();
    for (int i = 1; i <= 11; i++) {
      D.due("a node of the one that comes: grow", x.grow(i, FORK, 0), BAD);
      D.due("grow", x.grow(i - 1, FORK, 0), i);
      D.due("count(0)", x.count(0), i + 1);
      D.due("told(.., 5): of a lesser number", x.told(i, 5), i - 1);
      D.due("told of the next one", x.told(i + 1, 5), BAD);
    }
    D.due("the 13th on the trunk", x.grow(0, FORK, 0), FULL);
    D.due("the 13th on the 12th", x.grow(11, FORK, 0), FULL);
    x.cut(11);
    D.due("a cut one gives no room", x.grow(0, FORK, 0), FULL);
    D.due("count(0)", x.count(0), 12);
    D.due("told(11, 0)", x.told(11, 0), 0);
    D.due("told(12, 0)", x.told(12, 0), BAD);
  }

  private static void allThatIsSetAtFirst() {
    D.scene("what is there at first, and of a node that came");
    int[] whats = {0, 1, 90, 91, 51};
    for (int kind = FORK; kind <= GRAFTED; kind++) {
      for (int what : whats) {
        VotesOnTree x = new VotesOnTree();
        x.set(3, 0, 1);
        x.set(2, 0, 9);
        D.due("grow", x.grow(0, kind, what), 1);
        int[] due = {kind, what / 10, what % 10, 50, 0, 0, 1, 1, what % 10};
        for (int i = 0; i < due.length; i++) {
          D.due("kind " + kind + " of " + what + ": told(1, " + i + ")", x.told(1, i), due[i]);
        }
      }
    }
    VotesOnTree x = new VotesOnTree();
    int[] trunk = {FORK, 0, 0, 50, 0, NONE, 1, 0, 0, 1};
    for (int i = 0; i < trunk.length; i++) {
      D.due("told(0, " + i + ")", x.told(0, i), trunk[i]);
    }
    int[] counts = {1, 1, 0, 1, 0, 0, 0};
    for (int i = 0; i < counts.length; i++) {
      D.due("count(" + i + ")", x.count(i), counts[i]);
    }
  }

  private static void standsByItsParent() {
    D.scene("a node stands, if it isn't cut, and its parent stands");
    for (int at = 1; at < 12; at++) {
      VotesOnTree x = chain(12);
      D.due("of 12 in a row: cut(" + at + ")", x.cut(at), 12 - at);
      D.due("count(1)", x.count(1), at);
      D.due("the trunk always does", x.told(0, 6), 1);
      for (int node = 1; node < 12; node++) {
        boolean stands = node < at;
        D.due("told(" + node + ", 6)", x.told(node, 6), stands ? 1 : 0);
        D.due("told(" + node + ", 7)", x.told(node, 7), node == at - 1 ? 1 : 0);
        D.due("told(" + node + ", 8)", x.told(node, 8), stands ? 0 : NONE);
        D.due("told(" + node + ", 9)", x.told(node, 9), stands ? 1 : 0);
      }
      D.due("graft(" + at + ")", x.graft(at), 12 - at);
      D.due("count(1)", x.count(1), 12);
    }
    D.scene("cut below a cut one");
    VotesOnTree x = chain(4);
    D.due("cut(3)", x.cut(3), 1);
    D.due("cut(2)", x.cut(2), 1);
    D.due("cut(1)", x.cut(1), 1);
    D.due("graft(3)", x.graft(3), STATE);
    D.due("graft(2)", x.graft(2), STATE);
    D.due("graft(1)", x.graft(1), 1);
    D.due("graft(3), its parent is cut still", x.graft(3), STATE);
    D.due("graft(2)", x.graft(2), 1);
    D.due("graft(2), cut no more", x.graft(2), STATE);
    D.due("graft(3)", x.graft(3), 1);
  }

  private static void twigs() {
    D.scene("a node that stands and has no kids is a twig; the trunk never is one");
    VotesOnTree x = chain(3);
    D.due("count(2)", x.count(2), 1);
    D.due("told(1, 7)", x.told(1, 7), 0);
    D.due("told(2, 7)", x.told(2, 7), 1);
    x.cut(2);
    D.due("its kid is cut: told(1, 7)", x.told(1, 7), 1);
    D.due("cut: told(2, 7)", x.told(2, 7), 0);
    D.due("count(2)", x.count(2), 1);
    x.cut(1);
    D.due("count(2)", x.count(2), 0);
    D.due("told(0, 7)", x.told(0, 7), 0);
    D.due("told(1, 7)", x.told(1, 7), 0);
    D.due("11 kids: count(2)", star(11, FORK, 0).count(2), 11);
    D.due("12 in a row: count(2)", chain(12).count(2), 1);
  }

  private static void setFromLeastToMost() {
    D.scene("NUMBER 0 .. 9, MIND 0 1, ODDS 0 .. 100, LAST 0 1, THE YEAR 0 .. 99");
    int[] most = {9, 1, 100, 1, 99};
    for (int node = 0; node <= 2; node++) {
      VotesOnTree x = chain(3);
      x.cut(2);
      for (int what = 0; what <= 4; what++) {
        x.set(what, node, 0);
        D.due("set(" + what + ", " + node + ", -1)", x.set(what, node, -1), BAD);
        D.due("set(" + what + ", " + node + ", most)", x.set(what, node, most[what]), 0);
        D.due("set(" + what + ", " + node + ", most + 1)", x.set(what, node, most[what] + 1), BAD);
        int is = what == 4 ? x.count(6) : x.told(node, what + 1);
        D.due("what " + what + " of " + node, is, most[what]);
        D.due("set(" + what + ", " + node + ", 0)", x.set(what, node, 0), most[what]);
        int then = what == 4 ? x.count(6) : x.told(node, what + 1);
        D.due("what " + what + " of " + node, then, 0);
        x.set(what, node, 1);
      }
      for (int what = 0; what <= 3; what++) {
        D.due("each by itself: told(" + node + ", " + (what + 1) + ")", x.told(node, what + 1), 1);
      }
    }
    VotesOnTree x = chain(2);
    int[] anywhere = {-1, 0, 1, 2, 12, MIN, MAX};
    int was = 0;
    for (int of : anywhere) {
      D.due("set(4, " + of + ", ..)", x.set(4, of, was + 14), was);
      was += 14;
    }
    D.due("count(6)", x.count(6), 98);
  }

  /** WEIGHS as the document says it, kind by kind. */
  private static int weighs(int kind, int number, int b) {
    int hollow = b > number ? 0 : 1;
    int[] due = {1, hollow, 1 + 1, hollow + b / 2, 2 * (1 + 1), Math.max(hollow, 1)};
    return due[kind];
  }

  private static void weighsOfEveryNumber() {
    D.scene("WEIGHS");
    for (int kind = FORK; kind <= GRAFTED; kind++) {
      VotesOnTree x = Dues.oak(0, kind, 0);
      for (int b = 0; b <= 10; b++) {
        for (int number = 0; number <= 9; number++) {
          x.set(0, 1, number);
          D.due("kind " + kind + ", NUMBER " + number + ", " + b + " kids: told(1, 9)", x.told(1, 9), weighs(kind, number, b));
        }
        x.grow(1, FORK, 0);
      }
    }
    D.scene("WEIGHS, by hand");
    VotesOnTree split = Dues.oak(0, SPLIT, 90);
    int[] due = {1, 1, 2, 2, 3, 3, 4, 4, 5, 5, 5};
    for (int b = 0; b <= 10; b++) {
      D.due("SPLIT of NUMBER 9, " + b + " kids", split.told(1, 9), due[b]);
      split.grow(1, FORK, 0);
    }
    VotesOnTree x = Dues.oak(0, HOLLOW, 20, 1, FORK, 0, 1, FORK, 0, 1, FORK, 0);
    D.due("HOLLOW of NUMBER 2, 3 kids", x.told(1, 9), 0);
    x.cut(4);
    D.due("2 that stand", x.told(1, 9), 1);
    x.cut(1);
    D.due("it doesn't stand", x.told(1, 9), 0);
  }

  private static void weightsInAVote() {
    D.scene("its kids that go yes weigh more, less, else by EVEN");
    // A node of weight w, going yes, against forks that go no: one less, as many, one more.
    for (int kind = FORK; kind <= GRAFTED; kind++) {
      for (int b = 0; b <= 5; b++) {
        int w = weighs(kind, 2, b);
        for (int no = Math.max(0, w - 1); no <= w + 1 && b + no <= 10; no++) {
          VotesOnTree x = Dues.oak(0, kind, 21);
          for (int i = 0; i < b; i++) {
            x.grow(1, FORK, 1);
          }
          for (int i = 0; i < no; i++) {
            x.grow(0, FORK, 0);
          }
          for (int last = 0; last <= 1; last++) {
            x.set(3, 0, last);
            String told = "kind " + kind + " of " + b + " kids, " + no + " no, LAST " + last + ": law()";
            D.due(told, x.law(), w > no ? 1 : w < no ? 0 : last);
          }
        }
      }
    }
    D.scene("all that it bears weighs 0");
    VotesOnTree x = Dues.oak(0, MISTLE, 0, 1, HOLLOW, 0, 2, FORK, 0, 1, HOLLOW, 1, 4, FORK, 0);
    D.due("a MISTLE, LAST no: told(1, 8)", x.told(1, 8), 1);
    x.set(3, 1, 1);
    D.due("LAST yes: told(1, 8)", x.told(1, 8), 0);
    x.set(1, 3, 1);
    x.set(1, 5, 1);
    D.due("minds don't matter: told(1, 8)", x.told(1, 8), 0);
    D.scene("a TWIG goes as its MIND is, and its LAST does not matter");
    for (int kind = FORK; kind <= GRAFTED; kind++) {
      for (int mind = 0; mind <= 1; mind++) {
        VotesOnTree y = Dues.oak(0, kind, 10 + mind);
        y.set(3, 1, 1 - mind);
        D.due("kind " + kind + ": told(1, 8)", y.told(1, 8), mind);
        D.due("kind " + kind + ": law()", y.law(), mind);
      }
    }
  }

  private static void evenOfEveryNumber() {
    D.scene("EVEN");
    for (int number = 0; number <= 9; number++) {
      for (int last = 0; last <= 1; last++) {
        int[] due = {last, 0, 1 - last, number % 2 == 1 ? 1 : 0, 1 - last, last == 0 ? 1 : 0};
        for (int kind = FORK; kind <= GRAFTED; kind++) {
          VotesOnTree x = Dues.oak(0, kind, 10 * number, 1, FORK, 1, 1, FORK, 0);
          x.set(3, 1, last);
          String told = "kind " + kind + ", NUMBER " + number + ", LAST " + last;
          D.due(told + ": told(1, 8)", x.told(1, 8), due[kind]);
          x.set(1, 1, 1 - due[kind]);
          D.due(told + ", whatever its own MIND: told(1, 8)", x.told(1, 8), due[kind]);
          x.set(1, 3, 1);
          D.due(told + ", not even, yes: told(1, 8)", x.told(1, 8), 1);
          x.set(1, 3, 0);
          x.set(1, 2, 0);
          D.due(told + ", not even, no: told(1, 8)", x.told(1, 8), 0);
        }
      }
    }
  }

  private static void namesFromLeastToMost() {
    D.scene("TEXT 0, at first THE RULE");
    VotesOnTree first = Dues.oak(0, FORK, 0, 1, FORK, 0, 1, FORK, 0, 3, FORK, 0, 3, FORK, 0);
    int[][] prices = {{10, 0, 1}, {10, 5, 1}, {4, 10, 1}, {7, 10, 1}, {4, 15, 1}, {4, 15, 1}};
    for (int node = 0; node < prices.length; node++) {
      for (int what = 0; what <= 2; what++) {
        D.due("asks(" + node + ", " + what + ")", first.asks(node, what), prices[node][what]);
      }
    }
    VotesOnTree bare = new VotesOnTree();
    int[] trunk = {1, 0, 1};
    for (int what = 0; what <= 2; what++) {
      D.due("a trunk alone: asks(0, " + what + ")", bare.asks(0, what), trunk[what]);
    }
    D.scene("node, depth, kids, twigs, last, year");
    VotesOnTree row = chain(12);
    Dues.rule(row, "costs node;falls depth;worth twigs*10+kids;");
    for (int i = 0; i < 12; i++) {
      D.due("in a row: node of " + i, row.asks(i, 0), i);
      D.due("in a row: depth of " + i, row.asks(i, 1), i);
      D.due("in a row: twigs, kids of " + i, row.asks(i, 2), i == 11 ? 10 : 11);
    }
    row.cut(11);
    D.due("the last one cut: twigs, kids of 10", row.asks(10, 2), 10);
    D.due("the last one cut: twigs, kids of 0", row.asks(0, 2), 11);
    VotesOnTree broad = star(11, FORK, 0);
    Dues.rule(broad, "costs twigs;falls kids;worth depth;");
    D.due("11 kids: twigs of the trunk", broad.asks(0, 0), 11);
    D.due("11 kids: kids of the trunk", broad.asks(0, 1), 11);
    D.due("depth of the trunk", broad.asks(0, 2), 0);
    D.due("twigs of a twig", broad.asks(11, 0), 1);
    D.due("kids of a twig", broad.asks(11, 1), 0);
    D.due("depth of a kid of the trunk", broad.asks(11, 2), 1);
    VotesOnTree alone = new VotesOnTree();
    Dues.rule(alone, "costs twigs+50;falls kids+50;worth year;");
    D.due("no kids: twigs of the trunk", alone.asks(0, 0), 50);
    D.due("no kids: kids of the trunk", alone.asks(0, 1), 50);
    D.due("year 0", alone.asks(0, 2), 0);
    alone.set(4, 0, 99);
    D.due("year 99", alone.asks(0, 2), 99);
    VotesOnTree lasts = chain(3);
    Dues.rule(lasts, "costs last;falls 1;worth 1;");
    lasts.set(3, 1, 1);
    for (int i = 0; i < 3; i++) {
      D.due("last of " + i, lasts.asks(i, 0), i == 1 ? 1 : 0);
    }
  }

  private static void yearsPass() {
    D.scene("THE YEAR is 1 more (99 at most)");
    VotesOnTree x = new VotesOnTree();
    for (int year = 1; year <= 101; year++) {
      D.due("pass() of a trunk alone", x.pass(), 0);
      D.due("count(6)", x.count(6), Math.min(year, 99));
    }
    D.scene("LAST of each node that stands becomes how it goes, all by what was ahead");
    VotesOnTree y = Dues.oak(0, GRAFTED, 0, 1, TWINS, 0, 2, FORK, 1, 2, FORK, 0, 1, MISTLE, 1, 1, MISTLE, 1);
    // 2 is even: not its LAST, so yes and no by turns; 1 goes yes by 8 of 8, or is even at 4 and 4: yes, if LAST is no.
    int[][] goes = {{1, 1}, {0, 0}, {1, 1}, {0, 0}};
    y.set(3, 0, 1);
    for (int[] g : goes) {
      D.due("pass()", y.pass(), g[0]);
      D.due("told(0, 4)", y.told(0, 4), g[0]);
      D.due("told(1, 4)", y.told(1, 4), g[0]);
      D.due("told(2, 4)", y.told(2, 4), g[1]);
      D.due("told(3, 4)", y.told(3, 4), 1);
      D.due("told(4, 4)", y.told(4, 4), 0);
    }
    y.set(3, 2, 1);
    y.set(3, 3, 0);
    y.cut(2);
    D.due("pass(), 2 is cut", y.pass(), 1);
    D.due("cut: told(2, 4)", y.told(2, 4), 1);
    D.due("below a cut one: told(3, 4)", y.told(3, 4), 0);
    D.due("stands: told(5, 4)", y.told(5, 4), 1);
  }

  private static void found(String call, VotesOnTree x, int v, int sort, int bits, int many, int price) {
    int[] due = {bits, many, price};
    for (int what = 0; what <= 2; what++) {
      long got = call.equals("minds") ? x.minds(v, sort, what) : x.cuts(v, sort, what);
      D.due(call + "(" + v + ", " + sort + ", " + what + ")", got, due[what]);
    }
  }

  private static void mindsOfNoneAndOfAll() {
    D.scene("MINDS: no TWIG");
    for (int last = 0; last <= 1; last++) {
      for (int sort = 0; sort <= 1; sort++) {
        VotesOnTree x = new VotesOnTree();
        x.set(3, 0, last);
        x.set(1, 0, 1 - last);
        found("minds", x, last, sort, 0, 0, 0);
        found("minds", x, 1 - last, sort, NONE, NONE, NONE);
      }
    }
    D.scene("MINDS: 11 TWIGS, worth 99");
    VotesOnTree x = star(11, FORK, 0);
    Dues.rule(x, "costs 0;falls 0;worth 1000;");
    found("minds", x, 1, 0, 126, 6, 594);
    found("minds", x, 1, 1, 126, 6, 594);
    found("minds", x, 0, 1, 0, 0, 0);
    D.scene("MINDS: all must change");
    VotesOnTree two = star(2, FORK, 0);
    found("minds", two, 1, 0, 6, 2, 2);
    VotesOnTree row = chain(12);
    found("minds", row, 1, 1, 2048, 1, 1);
    D.scene("MINDS: of like ones the least as bits");
    VotesOnTree ties = Dues.oak(0, FORK, 1, 0, FORK, 0, 0, FORK, 0, 0, FORK, 1, 0, FORK, 0);
    found("minds", ties, 1, 0, 4, 1, 1);
    found("minds", ties, 1, 1, 4, 1, 1);
    Dues.rule(ties, "costs 1;falls 1;worth 5-node;");
    found("minds", ties, 1, 0, 4, 1, 3);
    found("minds", ties, 1, 1, 32, 1, 0);
    D.scene("MINDS: none is found before some that are worth 0");
    VotesOnTree free = star(3, FORK, 1);
    Dues.rule(free, "costs 1;falls 1;worth 0;");
    found("minds", free, 1, 1, 0, 0, 0);
    found("minds", free, 0, 1, 6, 2, 0);
    D.scene("MINDS: more that are worth as much; the least as bits may be the many");
    VotesOnTree many = Dues.oak(0, FORK, 0, 0, FORK, 0, 0, MISTLE, 0);
    many.set(3, 0, 1);
    Dues.rule(many, "costs 1;falls 1;worth 1+(node=3);");
    found("minds", many, 1, 1, 6, 2, 2);
    found("minds", many, 1, 0, 8, 1, 2);
  }

  private static void cutsOfNoneAndOfAll() {
    D.scene("CUTS: no NODE but the TRUNK");
    for (int last = 0; last <= 1; last++) {
      for (int sort = 0; sort <= 1; sort++) {
        VotesOnTree x = new VotesOnTree();
        x.set(3, 0, last);
        found("cuts", x, last, sort, 0, 0, 0);
        found("cuts", x, 1 - last, sort, NONE, NONE, NONE);
      }
    }
    D.scene("CUTS: all must be cut, 11 that cost 99");
    VotesOnTree x = star(11, FORK, 0);
    x.set(3, 0, 1);
    Dues.rule(x, "costs 100;falls 0;worth 0;");
    found("cuts", x, 1, 0, 4094, 11, 1089);
    found("cuts", x, 1, 1, 4094, 11, 1089);
    D.scene("CUTS: a row of 12, each with what is above it");
    VotesOnTree row = chain(12);
    row.set(3, 0, 1);
    found("cuts", row, 1, 0, 2, 1, 4);
    Dues.rule(row, "costs 12-node;falls 0;worth 0;");
    found("cuts", row, 1, 0, 2, 1, 11);
    found("cuts", row, 1, 1, 2, 1, 11);
    row.set(1, 10, 1);
    found("cuts", row, 1, 0, 2, 1, 11);
    found("cuts", row, 1, 1, 2048, 1, 1);
    D.scene("CUTS: of like ones the least as bits; (Texts as all is now)");
    VotesOnTree ties = Dues.oak(0, FORK, 0, 0, FORK, 0, 0, FORK, 1, 1, FORK, 0, 1, FORK, 0);
    ties.set(3, 0, 1);
    Dues.rule(ties, "costs kids+1;falls 0;worth 0;");
    found("cuts", ties, 1, 0, 2, 1, 3);
    found("cuts", ties, 1, 1, 4, 1, 1);
    Dues.rule(ties, "costs 0;falls 0;worth 0;");
    found("cuts", ties, 1, 1, 2, 1, 0);
    D.scene("CUTS: what doesn't stand is in no set");
    VotesOnTree gone = Dues.oak(0, FORK, 0, 0, FORK, 0);
    gone.set(3, 0, 1);
    gone.cut(1);
    found("cuts", gone, 1, 0, 4, 1, 4);
  }

  private static void lopsidedDue(String told, VotesOnTree x, int fewest, int most) {
    D.due(told + ": lopsided(0)", x.lopsided(0), fewest);
    D.due(told + ": lopsided(1)", x.lopsided(1), most);
  }

  private static void lopsidedOfNoneAndOfAll() {
    D.scene("LOPSIDED");
    VotesOnTree none = new VotesOnTree();
    lopsidedDue("no TWIG, LAST no", none, NONE, 0);
    none.set(3, 0, 1);
    lopsidedDue("no TWIG, LAST yes", none, 0, NONE);
    lopsidedDue("one", star(1, FORK, 0), 1, 0);
    lopsidedDue("11", star(11, TWINS, 1), 6, 5);
    VotesOnTree two = star(2, FORK, 1);
    lopsidedDue("two, LAST no: both", two, 2, 1);
    // A HOLLOW of 10 kids weighs nothing: yes with one, no with ten.
    VotesOnTree hollow = Dues.oak(0, FORK, 0, 0, HOLLOW, 90);
    for (int i = 0; i < 9; i++) {
      hollow.grow(2, FORK, 0);
    }
    lopsidedDue("a HOLLOW of 9 kids, NUMBER 9", hollow, 6, 9);
    hollow.set(0, 2, 8);
    lopsidedDue("a HOLLOW of 9 kids, NUMBER 8", hollow, 1, 9);
  }

  private static void countsOfNoneAndOfAll() {
    D.scene("COUNTS, FAIR");
    D.due("no TWIG: counts(NONE)", new VotesOnTree().counts(NONE), 1);
    D.due("no TWIG: counts(0)", new VotesOnTree().counts(0), BAD);
    VotesOnTree one = star(1, FORK, 0);
    D.due("one: counts(1)", one.counts(1), 2);
    D.due("one: counts(NONE)", one.counts(NONE), 1);
    VotesOnTree x = Dues.oak(0, FORK, 1, 0, HOLLOW, 0);
    for (int i = 0; i < 9; i++) {
      x.grow(2, FORK, 0);
    }
    D.due("1 of 10 decides: counts(1)", x.counts(1), 1024);
    for (int node = 3; node <= 11; node++) {
      D.due("counts(" + node + ")", x.counts(node), 0);
    }
    D.due("counts(NONE)", x.counts(NONE), 0);
    x.cut(1);
    D.due("none decides: counts(NONE)", x.counts(NONE), 1);
    D.due("cut: counts(1)", x.counts(1), BAD);
    // The last TWIG alone counts otherwise: FAIR looks at all of them.
    VotesOnTree last = star(10, FORK, 0);
    last.grow(0, MISTLE, 0);
    D.due("ten forks and a MISTLE: counts(10)", last.counts(10) == last.counts(1) ? 1 : 0, 1);
    D.due("the MISTLE counts more", last.counts(11) > last.counts(10) ? 1 : 0, 1);
    D.due("counts(NONE)", last.counts(NONE), 0);
    VotesOnTree second = Dues.oak(0, FORK, 0, 0, MISTLE, 0, 0, FORK, 0);
    D.due("the second alone counts otherwise: counts(NONE)", second.counts(NONE), 0);
    VotesOnTree first = Dues.oak(0, MISTLE, 0, 0, FORK, 0, 0, FORK, 0);
    D.due("the first alone counts otherwise: counts(NONE)", first.counts(NONE), 0);
    VotesOnTree minds = star(3, FORK, 0);
    minds.set(1, 1, 1);
    D.due("as MINDS are now does not matter: counts(1)", minds.counts(1), 4);
  }

  private static void sureDue(String told, VotesOnTree x, int sort, long above, long below) {
    D.due(told + ": sure(" + sort + ", 0)", x.sure(sort, 0), above);
    D.due(told + ": sure(" + sort + ", 1)", x.sure(sort, 1), below);
  }

  private static void sureOfNoneAndOfEight() {
    D.scene("SURE (8 at most)");
    for (int last = 0; last <= 1; last++) {
      VotesOnTree none = new VotesOnTree();
      none.set(3, 0, last);
      none.set(2, 0, 30);
      sureDue("no TWIG", none, 0, last, 1);
    }
    for (int odds = 0; odds <= 100; odds++) {
      VotesOnTree one = star(1, FORK, 0);
      one.set(2, 1, odds);
      long divisor = BigInteger.valueOf(odds).gcd(BigInteger.valueOf(100)).longValue();
      sureDue("one of " + odds, one, 0, odds / divisor, 100 / divisor);
    }
    int[] ends = {0, 100};
    for (int odds : ends) {
      VotesOnTree x = star(8, FORK, 0);
      for (int i = 1; i <= 8; i++) {
        x.set(2, i, odds);
      }
      sureDue("8 of " + odds, x, 0, odds / 100, 1);
      x.grow(0, FORK, 0);
      sureDue("9", x, 0, NO, NO);
      x.cut(9);
      sureDue("8 again", x, 0, odds / 100, 1);
    }
    VotesOnTree both = star(2, FORK, 0);
    both.set(2, 1, 1);
    both.set(2, 2, 1);
    sureDue("both of 1 of a hundred", both, 0, 1, 10000);
    // Forks of 3, 3 and 2 TWIGS go yes by 1/2, 1/2 and 1/4: two or three of them by 1/4 + 1/4 * 1/2.
    VotesOnTree x = star(3, FORK, 0);
    for (int i = 0; i < 8; i++) {
      x.grow(1 + i / 3, FORK, 0);
    }
    sureDue("12 NODES, 8 TWIGS", x, 0, 3, 8);
  }

  private static void stormOfNoneAndOfEight() {
    D.scene("STORM (8 at most)");
    for (int last = 0; last <= 1; last++) {
      VotesOnTree none = new VotesOnTree();
      none.set(3, 0, last);
      sureDue("no KID", none, 1, last, 1);
    }
    for (int last = 0; last <= 1; last++) {
      VotesOnTree x = star(8, FORK, 1 - last);
      x.set(3, 0, last);
      Dues.rule(x, "costs 1;falls 100;worth 1;");
      sureDue("all 8 fall surely: by LAST", x, 1, last, 1);
      Dues.rule(x, "costs 1;falls 0;worth 1;");
      sureDue("none of 8 falls", x, 1, 1 - last, 1);
      x.grow(0, FORK, 0);
      sureDue("9", x, 1, NO, NO);
      x.cut(3);
      sureDue("8 again", x, 1, 1 - last, 1);
    }
    VotesOnTree most = star(8, FORK, 0);
    most.set(3, 0, 1);
    Dues.rule(most, "costs 1;falls 1;worth 1;");
    sureDue("8 that fall by 1 of a hundred, all of them", most, 1, 1, 10000000000000000L);
    D.scene("STORM: as if it were CUT, with all that is on it; deeper ones don't fall");
    VotesOnTree deep = Dues.oak(0, FORK, 0, 1, FORK, 1, 2, FORK, 1, 0, FORK, 0, 0, FORK, 0);
    Dues.rule(deep, "costs 1;falls 100*(1<depth)+50*(node=4)+50*(node=5);worth 1;");
    sureDue("yes, if both no ones fall", deep, 1, 1, 4);
    deep.set(3, 0, 1);
    sureDue("LAST yes: one of them is enough", deep, 1, 3, 4);
  }

  private static void propOfNoneAndOfEight() {
    D.scene("PROP (8 at most)");
    D.due("no KID", new VotesOnTree().prop(), NONE);
    VotesOnTree one = star(1, FORK, 1);
    D.due("one KID", one.prop(), 1);
    one.cut(1);
    D.due("its one KID is cut", one.prop(), NONE);
    VotesOnTree x = star(8, FORK, 1);
    Dues.rule(x, "costs 1;falls 100-(node=3);worth 1;");
    D.due("8: whichever, it is sure: the first", x.prop(), 1);
    x.set(1, 1, 0);
    x.set(1, 2, 0);
    D.due("8: the first that holds it", x.prop(), 3);
    x.grow(0, FORK, 1);
    D.due("9", x.prop(), STATE);
    x.cut(1);
    D.due("8 again", x.prop(), 3);
    D.scene("PROP: of like ones the first, also where it is likely by none");
    VotesOnTree never = Dues.oak(0, TWINS, 0, 0, FORK, 1, 0, FORK, 1, 0, FORK, 1, 0, FORK, 1, 0, FORK, 1);
    Dues.rule(never, "costs 1;falls (1<node)*100;worth 1;");
    D.due("5 to 4 now, 1 to 4 at most then: prop()", never.prop(), 1);
    never.cut(1);
    D.due("the twins are gone: prop()", never.prop(), 2);
    D.scene("PROP: that THE LAW is as it is now, also no");
    VotesOnTree no = Dues.oak(0, FORK, 1, 0, FORK, 0, 0, FORK, 0);
    no.set(3, 0, 1);
    Dues.rule(no, "costs 1;falls 50;worth 1;");
    D.due("prop()", no.prop(), 2);
    Dues.rule(no, "costs 1;falls 50+(node=3)*9;worth 1;");
    D.due("the likelier one to fall", no.prop(), 3);
  }

  private static void turnsDue(String told, VotesOnTree x, int n, int law, int node) {
    D.due(told + ": turns(" + n + ", 0)", x.turns(n, 0), law);
    D.due(told + ": turns(" + n + ", 1)", x.turns(n, 1), node);
  }

  private static void turnsOfNoneAndOfSix() {
    D.scene("BY TURNS: no TWIG");
    for (int last = 0; last <= 1; last++) {
      for (int n = 0; n <= 4; n++) {
        VotesOnTree none = new VotesOnTree();
        none.set(3, 0, last);
        turnsDue("LAST " + last, none, n, last, NONE);
      }
    }
    D.scene("BY TURNS: fewer, if there is no TWIG any more");
    for (int n = 0; n <= 4; n++) {
      VotesOnTree one = star(1, FORK, 0);
      one.set(3, 0, 1);
      turnsDue("one no, LAST yes", one, n, n == 0 ? 0 : 1, n == 0 ? NONE : 1);
      VotesOnTree two = star(2, FORK, 1);
      turnsDue("two yes, LAST no", two, n, n < 2 ? 1 : 0, n == 0 ? NONE : 1);
    }
    D.scene("BY TURNS: of those there are by then");
    VotesOnTree row = Dues.oak(0, FORK, 0, 1, FORK, 1, 2, FORK, 0, 3, FORK, 1, 4, FORK, 0);
    int[] due = {0, 1, 0, 1, 0};
    for (int n = 0; n <= 4; n++) {
      turnsDue("a row of six", row, n, due[n], n == 0 ? NONE : 5);
    }
    D.scene("BY TURNS: 6 TWIGS at most");
    // Six: 1, 2, 3 no and 4, 5, 6 yes; each cuts the other's.
    VotesOnTree six = Dues.oak(0, 0, 0, 0, 0, 0, 0, 0, 0, 0, 0, 1, 0, 0, 1, 0, 0, 1);
    int[] laws = {0, 1, 0, 1, 0};
    int[] nodes = {NONE, 1, 1, 1, 1};
    for (int n = 0; n <= 4; n++) {
      turnsDue("six", six, n, laws[n], nodes[n]);
    }
    six.set(3, 0, 1);
    for (int n = 0; n <= 4; n++) {
      turnsDue("six, LAST yes", six, n, 1, n == 0 ? NONE : 1);
    }
    six.grow(6, FORK, 1);
    D.due("still six: turns(1, 0)", six.turns(1, 0), 1);
    six.grow(6, FORK, 1);
    for (int n = 0; n <= 4; n++) {
      turnsDue("seven", six, n, STATE, STATE);
    }
    six.cut(8);
    D.due("six again: turns(1, 0)", six.turns(1, 0), 1);
  }

  private static void whoCutOfNoneAndOfAll() {
    D.scene("WHO CUT: nothing told");
    VotesOnTree x = new VotesOnTree();
    Dues.ints(x, 0);
    D.due("a trunk alone: whoCut(0, 0)", x.whoCut(0, 0), 1);
    D.due("a trunk alone: whoCut(0, 1)", x.whoCut(0, 1), 0);
    VotesOnTree row = chain(12);
    Dues.ints(row, 0);
    D.due("12 in a row, none above another: whoCut(0, 0)", row.whoCut(0, 0), 12);
    D.due("12 in a row: whoCut(0, 1)", row.whoCut(0, 1), 0);
    VotesOnTree broad = star(11, FORK, 0);
    Dues.ints(broad, 0);
    D.due("11 kids: whoCut(0, 0)", broad.whoCut(0, 0), 2048);
    D.scene("WHO CUT: all told, 20 two by two");
    int[] all = new int[40];
    for (int i = 0; i < 20; i++) {
      all[2 * i] = i % 12;
      all[2 * i + 1] = i % 12 == 0 ? 0 : 2;
    }
    Dues.ints(broad, 0, all);
    D.due("all were cut: whoCut(0, 0)", broad.whoCut(0, 0), 1);
    D.due("all were cut: whoCut(0, 1)", broad.whoCut(0, 1), 4094);
    all[39] = 0;
    Dues.ints(broad, 0, all);
    D.due("the 20th says otherwise: whoCut(0, 0)", broad.whoCut(0, 0), 0);
    D.due("the 20th says otherwise: whoCut(0, 1)", broad.whoCut(0, 1), NONE);
    broad.sheet(0, 2, 39);
    D.due("39: whoCut(0, 0)", broad.whoCut(0, 0), BAD);
    D.scene("WHO CUT: what stands goes so, not just how it would");
    VotesOnTree y = Dues.oak(0, FORK, 1, 1, FORK, 0, 1, FORK, 0);
    Dues.ints(y, 0, 1, 1);
    D.due("both kids are cut: whoCut(0, 0)", y.whoCut(0, 0), 1);
    D.due("both kids are cut: whoCut(0, 1)", y.whoCut(0, 1), 12);
    Dues.ints(y, 0, 2, 0);
    D.due("2 stands: whoCut(0, 0)", y.whoCut(0, 0), 2);
    Dues.ints(y, 0, 2, 2);
    D.due("2 doesn't: whoCut(0, 0)", y.whoCut(0, 0), 3);
    D.due("2 doesn't: whoCut(0, 1)", y.whoCut(0, 1), 2);
    for (int sort = 0; sort <= 1; sort++) {
      y.sheet(1, sort, 2);
      y.cell(1, 0, 2);
      y.cell(1, 1, 2);
      D.due("of sort " + sort + ": whoCut(1, 0)", y.whoCut(1, 0), 3);
    }
  }

  private static int step(int z) {
    return z * 1103515245 + 12345;
  }

  private static boolean below(int z, int odds) {
    return (z >>> 10) % 100 < odds;
  }

  private static void drawnOfNoneAndOfAll() {
    D.scene("DRAWN: no TWIG, ODDS 0, ODDS 100");
    int[] seeds = {0, 1, -1, 5, 4711, MIN, MAX, MIN + 1, MAX - 1};
    for (int seed : seeds) {
      for (int last = 0; last <= 1; last++) {
        VotesOnTree none = new VotesOnTree();
        none.set(3, 0, last);
        D.due("no TWIG: drawn(" + seed + ")", none.drawn(seed), last);
      }
      VotesOnTree x = star(11, FORK, 0);
      for (int i = 1; i <= 11; i++) {
        x.set(2, i, 0);
      }
      D.due("ODDS 0: drawn(" + seed + ")", x.drawn(seed), 0);
      for (int i = 1; i <= 11; i++) {
        x.set(2, i, 100);
        x.set(1, i, 0);
      }
      D.due("ODDS 100: drawn(" + seed + ")", x.drawn(seed), 1);
    }
    D.scene("DRAWN: below ODDS, by numbers, z an int from SEED on");
    for (int seed : seeds) {
      // The last of 11 alone decides: the ten ahead of it draw, and hang on a HOLLOW that weighs nothing.
      VotesOnTree x = Dues.oak(0, HOLLOW, 0);
      for (int i = 0; i < 9; i++) {
        x.grow(1, FORK, 0);
      }
      x.grow(0, FORK, 0);
      int z = seed;
      for (int k = 0; k < 10; k++) {
        z = step(z);
      }
      int lot = (z >>> 10) % 100;
      int[] odds = {0, lot, Math.min(lot + 1, 100), 100};
      for (int o : odds) {
        x.set(2, 11, o);
        D.due("ODDS " + o + ", lot " + lot + ": drawn(" + seed + ")", x.drawn(seed), below(z, o) ? 1 : 0);
      }
    }
  }

  private static void seedsThatWrap() {
    D.scene("IN n seeds (1 .. 20), SEED and each 1 more (an int)");
    VotesOnTree x = star(1, FORK, 0);
    x.set(2, 1, 37);
    int[] seeds = {MAX, MAX - 1, MAX - 10, MAX - 18, MAX - 19, MIN, -1, -10, 0};
    for (int seed : seeds) {
      for (int n = 1; n <= 20; n++) {
        int yes = 0;
        for (int k = 0; k < n; k++) {
          yes += x.drawn(seed + k);
        }
        int divisor = BigInteger.valueOf(yes).gcd(BigInteger.valueOf(n)).intValue();
        VotesOnTree y = star(1, FORK, 1);
        y.set(2, 1, 37);
        D.due("chance(" + seed + ", " + n + ", 0)", y.chance(seed, n, 0), yes / divisor);
        D.due("chance(" + seed + ", " + n + ", 1)", y.chance(seed, n, 1), n / divisor);
      }
      x = star(1, FORK, 0);
      x.set(2, 1, 37);
    }
    int[] ends = {0, 100};
    for (int odds : ends) {
      x.set(2, 1, odds);
      for (int n = 1; n <= 20; n++) {
        D.due("ODDS " + odds + ": chance(3, " + n + ", 0)", x.chance(3, n, 0), odds / 100);
        D.due("ODDS " + odds + ": chance(3, " + n + ", 1)", x.chance(3, n, 1), 1);
      }
    }
    D.due("chance(3, 0, 0)", x.chance(3, 0, 0), NO);
    D.due("chance(3, 21, 0)", x.chance(3, 21, 0), NO);
  }

  private static void imageOfOneAndOfTwelve() {
    D.scene("AN IMAGE: of one NODE, of 12 (NODES that came since go)");
    VotesOnTree x = new VotesOnTree();
    D.due("back(), no image", x.back(), STATE);
    D.due("image()", x.image(), 1);
    for (int i = 1; i <= 11; i++) {
      x.grow(i - 1, TWINS, 91);
    }
    D.due("back()", x.back(), 1);
    D.due("count(0)", x.count(0), 1);
    D.due("count(2)", x.count(2), 0);
    D.due("told(1, 0)", x.told(1, 0), BAD);
    D.due("grow(1, 0, 0)", x.grow(1, FORK, 0), BAD);
    for (int i = 1; i <= 11; i++) {
      D.due("room for 11 again: grow", x.grow(0, FORK, 0), i);
    }
    D.due("image()", x.image(), 12);
    x.cut(4);
    D.due("back()", x.back(), 12);
    D.due("count(1)", x.count(1), 12);
    D.due("the first image is gone: back()", x.back(), 12);
  }

  private static void imageKeepsEachThing() {
    D.scene("AN IMAGE keeps each thing of each NODE");
    for (int node = 0; node < 12; node++) {
      for (int what = 0; what <= 3; what++) {
        VotesOnTree x = chain(12);
        x.set(what, node, 1);
        x.image();
        x.set(what, node, 0);
        x.back();
        D.due("1: told(" + node + ", " + (what + 1) + ")", x.told(node, what + 1), 1);
        x.set(what, node, 0);
        x.image();
        x.set(what, node, 1);
        x.back();
        D.due("0: told(" + node + ", " + (what + 1) + ")", x.told(node, what + 1), 0);
      }
      if (node > 0) {
        VotesOnTree x = chain(12);
        x.cut(node);
        x.image();
        x.graft(node);
        x.back();
        D.due("cut: count(1)", x.count(1), node);
        D.due("cut: graft(" + node + ")", x.graft(node), 12 - node);
        x.image();
        x.cut(node);
        x.back();
        D.due("not cut: count(1)", x.count(1), 12);
        D.due("not cut: graft(" + node + ")", x.graft(node), STATE);
      }
    }
    D.scene("AN IMAGE keeps THE YEAR, THE RULE");
    int[] years = {0, 1, 99};
    for (int year : years) {
      VotesOnTree x = new VotesOnTree();
      x.set(4, 0, year);
      x.image();
      x.set(4, 0, 50);
      x.pass();
      x.back();
      D.due("count(6)", x.count(6), year);
    }
    VotesOnTree x = new VotesOnTree();
    for (int text = 1; text <= 5; text++) {
      Dues.text(x, "costs " + text + ";falls 1;worth 1;");
    }
    for (int text = 0; text <= 5; text++) {
      x.force(text);
      x.image();
      x.force(5 - text);
      x.back();
      D.due("count(5)", x.count(5), text);
      D.due("asks(0, 0)", x.asks(0, 0), text == 0 ? 1 : text);
    }
  }

  private static void imageLeavesTheRest() {
    D.scene("what AN IMAGE doesn't keep stays: texts, the tape, sheets, the image itself");
    VotesOnTree x = new VotesOnTree();
    x.image();
    Dues.text(x, "costs 7;falls 1;worth 1;");
    x.feed(99);
    x.sheet(0, 0, 40);
    x.back();
    D.due("count(3)", x.count(3), 2);
    D.due("count(4)", x.count(4), 1);
    D.due("cell(0, 39, 0)", x.cell(0, 39, 0), 1);
    D.due("force(1)", x.force(1), 0);
    D.due("asks(0, 0)", x.asks(0, 0), 7);
    D.due("back(), once more", x.back(), 1);
    D.due("count(5)", x.count(5), 0);
    D.scene("a NODE that comes where one went has nothing of it");
    VotesOnTree y = new VotesOnTree();
    y.image();
    y.grow(0, TWINS, 91);
    y.grow(1, TWINS, 91);
    y.set(2, 1, 3);
    y.set(3, 1, 1);
    y.cut(2);
    y.cut(1);
    y.back();
    y.grow(0, GRAFTED, 10);
    y.grow(0, HOLLOW, 0);
    int[][] due = {{5, 1, 0, 50, 0, 0, 1, 1, 0, 1}, {1, 0, 0, 50, 0, 0, 1, 1, 0, 1}};
    for (int node = 1; node <= 2; node++) {
      for (int what = 0; what <= 9; what++) {
        D.due("told(" + node + ", " + what + ")", y.told(node, what), due[node - 1][what]);
      }
    }
    D.due("graft(2)", y.graft(2), STATE);
    D.due("cut(1)", y.cut(1), 1);
  }
}
