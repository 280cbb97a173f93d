import java.math.BigInteger;

/** Promises 17 to 25: sure, prop, turns, whoCut, drawn, chance, image, back, count. */
public final class OddsTest {
  private static final int BAD = VotesOnTree.BAD, STATE = VotesOnTree.STATE, NONE = VotesOnTree.NONE;
  private static final long NO = VotesOnTree.NO;
  private static final int MISTLE = 2, TWINS = 4;
  private static final Dues D = new Dues();

  public static void main(String[] args) {
    sureOfMinds();
    sureOfEight();
    sureInAStorm();
    sureRefuses();
    propOrdinary();
    propNoneAndState();
    turnsOrdinary();
    turnsNoneAndRefusals();
    whoCutOrdinary();
    whoCutRefuses();
    drawnBySeed();
    chanceOfSeeds();
    imageAndBack();
    backOfCuts();
    counts();
    D.end();
  }

  private static void sureDue(String scene, VotesOnTree x, int sort, long above, long below) {
    D.due(scene + ": sure(" + sort + ", 0)", x.sure(sort, 0), above);
    D.due(scene + ": sure(" + sort + ", 1)", x.sure(sort, 1), below);
  }

  private static void sureOfMinds() {
    D.scene("promise 17, SURE");
    VotesOnTree one = Dues.oak(0, 0, 0);
    sureDue("one twig", one, 0, 1, 2);
    one.set(2, 1, 30);
    sureDue("of 30", one, 0, 3, 10);
    one.set(2, 1, 0);
    sureDue("of 0", one, 0, 0, 1);
    one.set(2, 1, 100);
    sureDue("of 100", one, 0, 1, 1);
    VotesOnTree two = Dues.oak(0, 0, 0, 0, 0, 0);
    sureDue("two twigs", two, 0, 1, 4);
    two.set(3, 0, 1);
    sureDue("two twigs, LAST yes", two, 0, 3, 4);
    two.set(2, 1, 1);
    two.set(2, 2, 99);
    sureDue("1 and 99, LAST yes", two, 0, 9901, 10000);
    VotesOnTree none = new VotesOnTree();
    sureDue("no twig", none, 0, 0, 1);
    sureDue("no kid", none, 1, 0, 1);
    none.set(3, 0, 1);
    sureDue("no twig, LAST yes", none, 0, 1, 1);
    sureDue("no kid, LAST yes", none, 1, 1, 1);
  }

  /** 5 or more yes of 8 forks, each of 37 of a hundred, told by big numbers. */
  private static void sureOfEight() {
    D.scene("promise 17, eight");
    VotesOnTree x = new VotesOnTree();
    for (int i = 1; i <= 8; i++) {
      x.grow(0, 0, 1);
      x.set(2, i, 37);
    }
    BigInteger above = BigInteger.ZERO;
    int[] ofEight = {1, 8, 28, 56, 70, 56, 28, 8, 1};
    for (int yes = 5; yes <= 8; yes++) {
      above = above.add(BigInteger.valueOf(37).pow(yes).multiply(BigInteger.valueOf(63).pow(8 - yes))
          .multiply(BigInteger.valueOf(ofEight[yes])));
    }
    BigInteger below = BigInteger.valueOf(100).pow(8);
    BigInteger divisor = above.gcd(below);
    sureDue("8 twigs", x, 0, above.divide(divisor).longValueExact(), below.divide(divisor).longValueExact());
    Dues.rule(x, "costs 1;falls 99;worth 1;");
    sureDue("8 kids, all yes: no if all fall", x, 1,
        BigInteger.valueOf(100).pow(8).subtract(BigInteger.valueOf(99).pow(8)).longValueExact(),
        BigInteger.valueOf(100).pow(8).longValueExact());
    x.grow(8, 0, 1);
    x.grow(8, 0, 1);
    D.due("9 twigs: sure(0, 0)", x.sure(0, 0), NO);
    D.due("9 twigs: sure(0, 1)", x.sure(0, 1), NO);
    D.due("8 kids still: sure(1, 1)", x.sure(1, 1), 10000000000000000L);
    x.grow(0, 0, 1);
    D.due("9 kids: sure(1, 0)", x.sure(1, 0), NO);
    x.cut(1);
    D.due("8 kids again: sure(1, 1)", x.sure(1, 1), 10000000000000000L);
  }

  private static void sureInAStorm() {
    D.scene("promise 17, STORM");
    VotesOnTree x = Dues.oak(0, 0, 1, 0, 0, 0);
    Dues.rule(x, "costs 1;falls 25*node;worth 1;");
    sureDue("1 stands and 2 falls", x, 1, 3, 8);
    x.set(3, 0, 1);
    sureDue("but if 1 falls and 2 stands", x, 1, 7, 8);
    x.set(2, 1, 0);
    sureDue("odds are nothing in a storm", x, 1, 7, 8);
    Dues.rule(x, "costs 1;falls 200*(node=1);worth 1;");
    sureDue("1 falls surely", x, 1, 0, 1);
    Dues.rule(x, "costs 1;falls 200*(node=2);worth 1;");
    sureDue("2 falls surely", x, 1, 1, 1);
    VotesOnTree y = Dues.oak(0, 0, 1, 1, 0, 1, 1, 0, 1, 0, 0, 0);
    sureDue("kids of the trunk alone fall", y, 1, 19, 400);
  }

  private static void sureRefuses() {
    D.scene("promise 17, NO");
    VotesOnTree x = Dues.oak(0, 0, 1);
    int[][] bad = {{-1, 0}, {2, 0}, {0, -1}, {0, 2}, {1, -1}, {1, 2}, {Integer.MAX_VALUE, 0}, {0, Integer.MIN_VALUE}};
    for (int[] b : bad) {
      D.due("sure(" + b[0] + ", " + b[1] + ")", x.sure(b[0], b[1]), NO);
    }
  }

  private static void propOrdinary() {
    D.scene("promise 18, ordinary");
    VotesOnTree x = Dues.oak(0, 0, 1, 0, 0, 0);
    Dues.rule(x, "costs 1;falls 25*node;worth 1;");
    D.due("law is no: prop()", x.prop(), 2);
    x.set(3, 0, 1);
    D.due("law is yes: prop()", x.prop(), 1);
    Dues.rule(x, "costs 1;falls 0;worth 1;");
    D.due("all alike: prop()", x.prop(), 1);
    VotesOnTree y = Dues.oak(0, 0, 1, 0, 0, 1, 0, 0, 1);
    Dues.rule(y, "costs 1;falls 10*node;worth 1;");
    D.due("no if all fall, by any prop surely yes: prop()", y.prop(), 1);
    VotesOnTree z = Dues.oak(0, 0, 0, 0, TWINS, 1, 2, 0, 1, 0, 0, 1);
    z.cut(1);
    Dues.rule(z, "costs 1;falls 50;worth 1;");
    z.set(1, 4, 0);
    D.due("the twins hold it: prop()", z.prop(), 2);
  }

  private static void propNoneAndState() {
    D.scene("promise 18, NONE, STATE");
    VotesOnTree x = new VotesOnTree();
    D.due("prop()", x.prop(), NONE);
    for (int i = 1; i <= 8; i++) {
      x.grow(0, 0, 1);
    }
    Dues.rule(x, "costs 1;falls 50+node;worth 1;");
    D.due("8 kids: prop()", x.prop(), 1);
    x.grow(0, 0, 1);
    D.due("9 kids: prop()", x.prop(), STATE);
    x.cut(1);
    D.due("8 kids again: prop()", x.prop(), 2);
    VotesOnTree y = Dues.oak(0, 0, 1);
    y.cut(1);
    D.due("its kid is cut: prop()", y.prop(), NONE);
  }

  private static void turnsDue(VotesOnTree x, int n, int law, int node) {
    D.due("turns(" + n + ", 0)", x.turns(n, 0), law);
    D.due("turns(" + n + ", 1)", x.turns(n, 1), node);
  }

  private static void turnsOrdinary() {
    D.scene("promise 19, a chain");
    VotesOnTree x = Dues.oak(0, 0, 1, 1, 0, 0);
    turnsDue(x, 0, 0, NONE);
    turnsDue(x, 1, 1, 2);
    turnsDue(x, 2, 0, 2);
    turnsDue(x, 3, 0, 2);
    turnsDue(x, 4, 0, 2);
    x.set(3, 0, 1);
    turnsDue(x, 4, 1, 2);
    D.scene("promise 19, twigs 1 yes, 2 no, 3 no");
    VotesOnTree y = Dues.oak(0, 0, 1, 0, 0, 0, 0, 0, 0);
    turnsDue(y, 1, 0, 1);
    y.set(3, 0, 1);
    turnsDue(y, 1, 1, 2);
    turnsDue(y, 2, 0, 1);
    turnsDue(y, 3, 1, 1);
    D.scene("promise 19, the other one plays well too");
    VotesOnTree z = Dues.oak(0, 0, 1, 0, 0, 1, 0, MISTLE, 0);
    turnsDue(z, 2, 1, 3);
    D.due("count(1), nothing is cut", y.count(1), 4);
  }

  private static void turnsNoneAndRefusals() {
    D.scene("promise 19, NONE, BAD, STATE");
    VotesOnTree x = new VotesOnTree();
    turnsDue(x, 0, 0, NONE);
    turnsDue(x, 4, 0, NONE);
    x.set(3, 0, 1);
    turnsDue(x, 4, 1, NONE);
    for (int i = 1; i <= 6; i++) {
      x.grow(0, 0, 1);
    }
    turnsDue(x, 4, 1, 1);
    x.grow(0, 0, 1);
    D.due("7 twigs: turns(0, 0)", x.turns(0, 0), STATE);
    D.due("7 twigs: turns(1, 1)", x.turns(1, 1), STATE);
    int[][] bad = {{-1, 0}, {5, 0}, {0, -1}, {0, 2}, {Integer.MAX_VALUE, 0}, {1, Integer.MIN_VALUE}};
    for (int[] b : bad) {
      D.due("turns(" + b[0] + ", " + b[1] + ")", x.turns(b[0], b[1]), BAD);
    }
  }

  private static void whoCutDue(String scene, VotesOnTree x, int many, int least) {
    D.due(scene + ": whoCut(3, 0)", x.whoCut(3, 0), many);
    D.due(scene + ": whoCut(3, 1)", x.whoCut(3, 1), least);
  }

  private static void whoCutOrdinary() {
    D.scene("promise 20, ordinary");
    VotesOnTree x = Dues.oak(0, 0, 0, 1, 0, 1);
    Dues.ints(x, 3);
    whoCutDue("nothing told", x, 3, 0);
    Dues.ints(x, 3, 2, 2);
    whoCutDue("2 doesn't stand", x, 2, 2);
    Dues.ints(x, 3, 2, 2, 1, 0);
    whoCutDue("and 1 goes no", x, 1, 4);
    Dues.ints(x, 3, 1, 1);
    whoCutDue("1 goes yes", x, 1, 0);
    Dues.ints(x, 3, 0, 0);
    whoCutDue("the law is no", x, 2, 2);
    Dues.ints(x, 3, 0, 2);
    whoCutDue("the trunk doesn't stand", x, 0, NONE);
    Dues.ints(x, 3, 1, 0, 1, 1);
    whoCutDue("no and yes", x, 0, NONE);
    Dues.ints(x, 3, 1, 1, 1, 1);
    whoCutDue("yes twice", x, 1, 0);
    x.cut(2);
    Dues.ints(x, 3, 2, 2);
    whoCutDue("2 is cut already", x, 2, 0);
    Dues.ints(x, 3, 2, 1);
    whoCutDue("2 can't go", x, 0, NONE);
    x.grow(1, 0, 0);
    x.grow(1, 0, 0);
    Dues.ints(x, 3);
    whoCutDue("a fork of two twigs", x, 5, 0);
  }

  private static void whoCutRefuses() {
    D.scene("promise 20, refusals");
    VotesOnTree x = Dues.oak(0, 0, 0);
    int[][] bad = {{-1, 0}, {4, 0}, {0, -1}, {0, 2}, {Integer.MAX_VALUE, 0}, {0, Integer.MIN_VALUE}};
    for (int[] b : bad) {
      D.due("whoCut(" + b[0] + ", " + b[1] + ")", x.whoCut(b[0], b[1]), BAD);
    }
    D.due("missing: whoCut(0, 0)", x.whoCut(0, 0), -11);
    int[][] sheets = {{0}, {0, 0, 0}, {-1, 0}, {2, 0}, {0, -1}, {0, 3}, {0, 0, 1, 3}, {0, 0, 12, 0}, {32, 0}, {256, 0}};
    for (int[] s : sheets) {
      Dues.ints(x, 0, s);
      D.due("whoCut(0, 0) of " + java.util.Arrays.toString(s), x.whoCut(0, 0), BAD);
    }
    x.sheet(0, 0, 2);
    x.cell(0, 0, 256);
    x.cell(0, 1, 512);
    D.due("of bytes that are 0: whoCut(0, 0)", x.whoCut(0, 0), 2);
    x.sheet(0, -1, 0);
    D.due("missing again: whoCut(0, 1)", x.whoCut(0, 1), -11);
  }

  private static int lot(int seed, int odds) {
    int z = seed * 1103515245 + 12345;
    return (z >>> 10) % 100 < odds ? 1 : 0;
  }

  private static void drawnBySeed() {
    D.scene("promise 21");
    int[] seeds = {0, 1, 2, 3, 5, 17, 99, 1000, -1, -2, -77, Integer.MAX_VALUE, Integer.MIN_VALUE, 123456789};
    for (int seed : seeds) {
      VotesOnTree one = Dues.oak(0, 0, 0);
      VotesOnTree second = Dues.oak(0, 0, 0, 0, TWINS, 0);
      for (int odds = 0; odds <= 100; odds++) {
        one.set(2, 1, odds);
        second.set(2, 2, odds);
        D.due("one of " + odds + ": drawn(" + seed + ")", one.drawn(seed), lot(seed, odds));
        int next = seed * 1103515245 + 12345;
        D.due("the second of " + odds + ": drawn(" + seed + ")", second.drawn(seed), lot(next, odds));
      }
    }
    VotesOnTree second = Dues.oak(0, 0, 0, 0, TWINS, 0);
    second.cut(1);
    second.set(2, 2, 50);
    D.due("what doesn't stand draws nothing: drawn(8)", second.drawn(8), lot(8, 50));
    VotesOnTree none = new VotesOnTree();
    none.set(3, 0, 1);
    D.due("no twig: drawn(1)", none.drawn(1), 1);
    D.due("drawn(5) changes no mind", Dues.oak(0, 0, 0).law(), 0);
  }

  private static void chanceOfSeeds() {
    D.scene("promise 22");
    VotesOnTree x = Dues.oak(0, 0, 0);
    int[] seeds = {0, 7, -3, Integer.MAX_VALUE - 2};
    int[] odds = {50, 13, 37, 80};
    for (int seed : seeds) {
      for (int n = 1; n <= 20; n++) {
        int of = odds[n % odds.length];
        x.set(2, 1, of);
        int yes = 0;
        for (int k = 0; k < n; k++) {
          yes += lot(seed + k, of);
        }
        int divisor = BigInteger.valueOf(yes).gcd(BigInteger.valueOf(n)).intValue();
        D.due("chance(" + seed + ", " + n + ", 0)", x.chance(seed, n, 0), yes / divisor);
        D.due("chance(" + seed + ", " + n + ", 1)", x.chance(seed, n, 1), n / divisor);
      }
    }
    x.set(2, 1, 0);
    D.due("never: chance(1, 12, 0)", x.chance(1, 12, 0), 0);
    D.due("never: chance(1, 12, 1)", x.chance(1, 12, 1), 1);
    x.set(2, 1, 100);
    D.due("always: chance(1, 12, 0)", x.chance(1, 12, 0), 1);
    D.due("always: chance(1, 12, 1)", x.chance(1, 12, 1), 1);
    int[][] bad = {{0, 0}, {-1, 0}, {21, 0}, {1, -1}, {1, 2}, {Integer.MIN_VALUE, 0}, {Integer.MAX_VALUE, 1}};
    for (int[] b : bad) {
      D.due("chance(0, " + b[0] + ", " + b[1] + ")", x.chance(0, b[0], b[1]), NO);
    }
  }

  private static void imageAndBack() {
    D.scene("promises 23, 24");
    VotesOnTree x = Dues.oak(0, 0, 11, 0, 0, 20);
    D.due("back(), none yet", x.back(), STATE);
    x.set(2, 1, 7);
    x.set(3, 2, 1);
    x.set(4, 0, 12);
    D.due("image()", x.image(), 3);
    x.set(0, 1, 9);
    x.set(1, 1, 0);
    x.set(2, 1, 70);
    x.set(3, 2, 0);
    x.set(4, 0, 50);
    x.grow(2, 0, 0);
    Dues.rule(x, "costs 1;falls 1;worth 1;");
    x.feed(99);
    x.sheet(0, 0, 3);
    D.due("back()", x.back(), 3);
    D.due("count(0)", x.count(0), 3);
    D.due("told(3, 0)", x.told(3, 0), BAD);
    D.due("told(2, 7)", x.told(2, 7), 1);
    D.due("told(1, 1)", x.told(1, 1), 1);
    D.due("told(1, 2)", x.told(1, 2), 1);
    D.due("told(1, 3)", x.told(1, 3), 7);
    D.due("told(2, 4)", x.told(2, 4), 1);
    D.due("count(6)", x.count(6), 12);
    D.due("count(5)", x.count(5), 0);
    D.due("count(3), texts stay", x.count(3), 2);
    D.due("count(4), the tape stays", x.count(4), 1);
    D.due("cell(0, 2, 1), sheets stay", x.cell(0, 2, 1), 1);
    x.force(1);
    x.set(4, 0, 1);
    D.due("back(), once more", x.back(), 3);
    D.due("count(5)", x.count(5), 0);
    x.grow(0, 0, 0);
    x.force(1);
    D.due("image(), a later one", x.image(), 4);
    x.grow(0, 0, 0);
    x.force(0);
    D.due("back()", x.back(), 4);
    D.due("count(5)", x.count(5), 1);
  }

  private static void backOfCuts() {
    D.scene("promise 24, cuts");
    VotesOnTree x = Dues.oak(0, 0, 0, 1, 0, 0, 0, 0, 0);
    x.cut(2);
    D.due("image()", x.image(), 4);
    x.graft(2);
    x.cut(3);
    x.cut(1);
    D.due("back()", x.back(), 4);
    D.due("told(1, 6)", x.told(1, 6), 1);
    D.due("told(2, 6)", x.told(2, 6), 0);
    D.due("told(3, 6)", x.told(3, 6), 1);
    D.due("graft(1)", x.graft(1), STATE);
    D.due("graft(2)", x.graft(2), 1);
  }

  private static void counts() {
    D.scene("promise 25");
    VotesOnTree x = Dues.oak(0, 0, 0, 1, 0, 0, 1, 0, 0, 0, 0, 0);
    x.cut(4);
    x.cut(3);
    Dues.rule(x, "costs 1;falls 1;worth 1;");
    x.feed(1);
    x.feed(2);
    x.set(4, 0, 33);
    int[] due = {5, 3, 1, 2, 2, 1, 33};
    for (int what = 0; what < due.length; what++) {
      D.due("count(" + what + ")", x.count(what), due[what]);
    }
    int[] bad = {-1, 7, Integer.MIN_VALUE, Integer.MAX_VALUE};
    for (int what : bad) {
      D.due("count(" + what + ")", x.count(what), BAD);
    }
  }
}
