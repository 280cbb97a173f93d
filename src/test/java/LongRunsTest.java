/**
 * "An object is used for at most 512 calls after it has been made": runs of all 512, each round of which has answers
 * that follow from the document by hand, so that nothing may wear out, be left over or run full on the way. Random
 * runs of that length stand in TwinTest.
 */
public final class LongRunsTest {
  private static final int MOST_CALLS = 512;
  private static final int NONE = VotesOnTree.NONE, BAD = VotesOnTree.BAD, STATE = VotesOnTree.STATE;
  private static final int OUTSIDE = -12;
  private static final int FORK = 0, HOLLOW = 1, MISTLE = 2;
  private static final Dues D = new Dues();

  private static int calls = 0;

  public static void main(String[] args) {
    yearsThatTurn();
    shootsThatComeAndGo();
    boughsCutAndGrafted();
    tapesThatAreFull();
    itemsThatGoRound();
    greatQuestions();
    D.end();
  }

  private static void begin(String name) {
    D.scene(name);
    calls = 0;
  }

  private static void due(String call, long got, long want) {
    calls++;
    D.due(call + ", call " + calls, got, want);
  }

  private static void end() {
    D.due("calls of this run", calls, MOST_CALLS);
  }

  private static void yearsThatTurn() {
    begin("a MISTLE that is even goes otherwise each YEAR");
    VotesOnTree x = new VotesOnTree();
    due("grow", x.grow(0, MISTLE, 0), 1);
    due("grow", x.grow(1, FORK, 1), 2);
    due("grow", x.grow(1, FORK, 0), 3);
    for (int k = 1; k <= 254; k++) {
      due("pass()", x.pass(), k % 2);
      due("count(6)", x.count(6), Math.min(k, 99));
    }
    due("told(1, 4)", x.told(1, 4), 0);
    end();
  }

  private static void shootsThatComeAndGo() {
    begin("NODES that came since go, and nothing of them is left");
    VotesOnTree x = new VotesOnTree();
    due("grow", x.grow(0, FORK, 1), 1);
    due("grow", x.grow(0, HOLLOW, 0), 2);
    due("image()", x.image(), 3);
    for (int k = 0; k < 72; k++) {
      due("grow", x.grow(k % 3, k % 6, k % 10 * 10 + k % 2), 3);
      due("told(3, 0)", x.told(3, 0), k % 6);
      due("told(3, 5)", x.told(3, 5), k % 3);
      due("set(2, 3, ..)", x.set(2, 3, k), 50);
      due("set(3, 3, 1)", x.set(3, 3, 1), 0);
      due("cut(3)", x.cut(3), 1);
      due("back()", x.back(), 3);
    }
    due("told(3, 0)", x.told(3, 0), BAD);
    due("grow", x.grow(0, FORK, 0), 3);
    due("told(3, 3)", x.told(3, 3), 50);
    due("told(3, 4)", x.told(3, 4), 0);
    due("told(3, 6)", x.told(3, 6), 1);
    end();
  }

  private static void boughsCutAndGrafted() {
    begin("a row of 5, cut from its end on and grafted again");
    VotesOnTree x = new VotesOnTree();
    for (int i = 1; i <= 4; i++) {
      due("grow", x.grow(i - 1, FORK, 0), i);
    }
    for (int k = 1; k <= 50; k++) {
      due("set(1, 4, ..)", x.set(1, 4, k % 2), (k - 1) % 2);
      due("law()", x.law(), k % 2);
      due("cut(4)", x.cut(4), 1);
      due("cut(3)", x.cut(3), 1);
      due("cut(1)", x.cut(1), 2);
      due("graft(3)", x.graft(3), STATE);
      due("graft(1)", x.graft(1), 2);
      due("graft(4)", x.graft(4), STATE);
      due("graft(3)", x.graft(3), 1);
      due("graft(4)", x.graft(4), 1);
    }
    due("count(0)", x.count(0), 5);
    due("count(1)", x.count(1), 5);
    due("count(2)", x.count(2), 1);
    due("minds(1, 0, 0)", x.minds(1, 0, 0), 16);
    due("cuts(1, 0, 0)", x.cuts(1, 0, 0), NONE);
    due("counts(4)", x.counts(4), 2);
    due("turns(4, 0)", x.turns(4, 0), 0);
    due("turns(4, 1)", x.turns(4, 1), 4);
    end();
  }

  private static void feedTape(VotesOnTree x, String text, int size, char last) {
    for (int i = 0; i < size; i++) {
      char letter = i < text.length() ? text.charAt(i) : i == size - 1 ? last : ' ';
      due("feed", x.feed(letter), i + 1);
    }
  }

  private static void asksAll(VotesOnTree x, int costs, int falls, int worth) {
    due("asks(0, 0)", x.asks(0, 0), costs);
    due("asks(0, 1)", x.asks(0, 1), falls);
    due("asks(0, 2)", x.asks(0, 2), worth);
  }

  private static void tapesThatAreFull() {
    begin("three TAPES of 160 bytes");
    VotesOnTree x = new VotesOnTree();
    feedTape(x, "costs 1;falls 2;worth 3;", 160, ' ');
    due("text()", x.text(), 1);
    feedTape(x, "costs 4;falls 5;worth 6;", 160, ';');
    due("text()", x.text(), -100 - 159);
    feedTape(x, "costs ((7));falls - - 8;worth not not 9;", 160, '\n');
    due("text()", x.text(), 2);
    due("force(2)", x.force(2), 0);
    asksAll(x, 7, 8, 1);
    due("force(1)", x.force(1), 2);
    asksAll(x, 1, 2, 3);
    due("count(3)", x.count(3), 3);
    due("count(4)", x.count(4), 0);
    due("count(5)", x.count(5), 1);
    feedTape(x, "costs 9;falls 9;", 16, ' ');
    due("text()", x.text(), -100 - 16);
    due("count(4)", x.count(4), 0);
    end();
  }

  private static void itemsThatGoRound() {
    begin("40 items that go round 150 times");
    VotesOnTree x = new VotesOnTree();
    due("sheet(0, 2, 40)", x.sheet(0, 2, 40), 1);
    due("sheet(1, 2, 1)", x.sheet(1, 2, 1), 1);
    for (int i = 0; i < 40; i++) {
      due("cell", x.cell(0, i, i == 10 ? 0 : i == 11 ? 5 : i == 12 ? 91 : 7), 1);
    }
    for (int k = 0; k < 150; k++) {
      due("copy(0, 39, 1, 0, 1)", x.copy(0, 39, 1, 0, 1), 1);
      due("copy(0, 0, 0, 1, 39)", x.copy(0, 0, 0, 1, 39), 39);
      due("copy(1, 0, 0, 0, 1)", x.copy(1, 0, 0, 0, 1), 1);
    }
    due("nodes(0, 2, 0, 1)", x.nodes(0, 2, 0, 1), 1);
    due("taken(1, 5)", x.taken(1, 5), 9);
    due("told(1, 2)", x.told(1, 2), 1);
    due("told(1, 5)", x.told(1, 5), 0);
    for (int from = 1; from <= 15; from++) {
      due("nodes(0, 2, " + from + ", 1)", x.nodes(0, 2, from, 1), 0);
    }
    due("nodes(0, 2, 38, 1)", x.nodes(0, 2, 38, 1), OUTSIDE);
    end();
  }

  private static void greatQuestions() {
    begin("11 TWIGS, asked the same over and over");
    VotesOnTree x = new VotesOnTree();
    for (int i = 1; i <= 11; i++) {
      due("grow", x.grow(0, FORK, 1 - i % 2), i);
    }
    due("sheet(0, 0, 0)", x.sheet(0, 0, 0), 1);
    for (int k = 0; k < 50; k++) {
      due("law()", x.law(), 0);
      due("minds(1, 0, 0)", x.minds(1, 0, 0), 1 << 1);
      due("minds(1, 1, 2)", x.minds(1, 1, 2), 1);
      due("cuts(1, 0, 0)", x.cuts(1, 0, 0), 1 << 1 | 1 << 3);
      due("cuts(1, 1, 2)", x.cuts(1, 1, 2), 8);
      due("lopsided(0)", x.lopsided(0), 6);
      due("lopsided(1)", x.lopsided(1), 5);
      due("counts(11)", x.counts(11), 504);
      due("counts(NONE)", x.counts(NONE), 1);
      due("whoCut(0, 0)", x.whoCut(0, 0), 2048);
    }
    end();
  }
}
