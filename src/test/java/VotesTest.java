/** Promises 9 to 16: law, pass, cut, graft, minds, cuts, lopsided, counts. */
public final class VotesTest {
  private static final int BAD = VotesOnTree.BAD, STATE = VotesOnTree.STATE, NONE = VotesOnTree.NONE;
  private static final int FORK = 0, HOLLOW = 1, MISTLE = 2, SPLIT = 3, TWINS = 4;
  private static final Dues D = new Dues();

  public static void main(String[] args) {
    lawByWeight();
    lawWhenEven();
    passIsAllAtOnce();
    passLeavesWhatDoesNotStand();
    cutAndGraft();
    cutAndGraftRefuse();
    mindsFewestAndLeast();
    mindsNoneAndRefusals();
    cutsFewestAndLeast();
    cutsNoneAndRefusals();
    lopsidedBothWays();
    countsAndFair();
    D.end();
  }

  private static void lawByWeight() {
    D.scene("promise 9, weights");
    D.due("one yes", Dues.oak(0, FORK, 1).law(), 1);
    D.due("one no", Dues.oak(0, FORK, 0).law(), 0);
    D.due("FORK yes, MISTLE no", Dues.oak(0, FORK, 1, 0, MISTLE, 0).law(), 0);
    D.due("TWINS yes, MISTLE and FORK no", Dues.oak(0, TWINS, 1, 0, MISTLE, 0, 0, FORK, 0).law(), 1);
    VotesOnTree x = Dues.oak(0, FORK, 1, 0, HOLLOW, 0, 2, FORK, 0, 0, FORK, 0);
    D.due("even, a HOLLOW of more kids than NUMBER weighs 0", x.law(), 0);
    x.set(3, 0, 1);
    D.due("even, LAST yes", x.law(), 1);
    x.set(0, 2, 1);
    D.due("the HOLLOW weighs 1", x.law(), 0);
    VotesOnTree y = Dues.oak(0, SPLIT, 90, 1, FORK, 1, 1, FORK, 1, 0, FORK, 0);
    D.due("SPLIT of 2 kids weighs 2", y.law(), 1);
    y.cut(3);
    D.due("SPLIT of 1 kid weighs 1: even", y.law(), 0);
  }

  private static void lawWhenEven() {
    D.scene("promise 9, even");
    VotesOnTree x = new VotesOnTree();
    D.due("a trunk alone", x.law(), 0);
    x.set(3, 0, 1);
    D.due("a trunk alone, LAST yes", x.law(), 1);
    x.grow(0, FORK, 1);
    x.grow(0, FORK, 0);
    D.due("1 and 1, LAST yes", x.law(), 1);
    x.set(3, 0, 0);
    D.due("1 and 1, LAST no", x.law(), 0);
    x.set(1, 0, 1);
    D.due("the trunk's own mind is nothing", x.law(), 0);
  }

  private static void passIsAllAtOnce() {
    D.scene("promise 10, all at once");
    VotesOnTree x = Dues.oak(0, MISTLE, 0, 1, FORK, 1, 1, FORK, 0);
    for (int year = 1; year <= 4; year++) {
      int due = year % 2;
      D.due("law()", x.law(), due);
      D.due("pass()", x.pass(), due);
      D.due("told(0, 4)", x.told(0, 4), due);
      D.due("told(1, 4)", x.told(1, 4), due);
      D.due("told(2, 4)", x.told(2, 4), 1);
      D.due("told(3, 4)", x.told(3, 4), 0);
      D.due("count(6)", x.count(6), year);
    }
    x.set(4, 0, 98);
    x.pass();
    D.due("count(6)", x.count(6), 99);
    x.pass();
    D.due("count(6), 99 at most", x.count(6), 99);
  }

  private static void passLeavesWhatDoesNotStand() {
    D.scene("promise 10, nodes that don't stand");
    VotesOnTree x = Dues.oak(0, FORK, 1, 1, FORK, 1, 0, FORK, 0);
    x.set(3, 3, 1);
    x.cut(1);
    x.pass();
    D.due("told(1, 4)", x.told(1, 4), 0);
    D.due("told(2, 4)", x.told(2, 4), 0);
    D.due("told(3, 4)", x.told(3, 4), 0);
    x.set(3, 2, 1);
    x.set(1, 2, 0);
    x.pass();
    D.due("told(2, 4)", x.told(2, 4), 1);
  }

  private static void cutAndGraft() {
    D.scene("promises 11, 12, ordinary");
    VotesOnTree x = Dues.oak(0, 0, 1, 1, 0, 1, 2, 0, 1, 2, 0, 1, 1, 0, 1);
    D.due("cut(4)", x.cut(4), 1);
    D.due("cut(2), 4 fell already", x.cut(2), 2);
    D.due("cut(1)", x.cut(1), 2);
    D.due("count(1)", x.count(1), 1);
    D.due("graft(1)", x.graft(1), 2);
    D.due("graft(2), 4 is cut itself", x.graft(2), 2);
    D.due("told(4, 6)", x.told(4, 6), 0);
    D.due("graft(4)", x.graft(4), 1);
    D.due("count(1)", x.count(1), 6);
  }

  private static void cutAndGraftRefuse() {
    D.scene("promises 11, 12, refusals");
    VotesOnTree x = Dues.oak(0, 0, 1, 1, 0, 1);
    int[] bad = {0, -1, 3, 12, 31, 32, Integer.MIN_VALUE, Integer.MAX_VALUE};
    for (int node : bad) {
      D.due("cut(" + node + ")", x.cut(node), BAD);
      D.due("graft(" + node + ")", x.graft(node), BAD);
    }
    D.due("graft(1), not cut", x.graft(1), STATE);
    x.cut(2);
    x.cut(1);
    D.due("cut(1), cut", x.cut(1), STATE);
    D.due("cut(2), cut and fallen", x.cut(2), STATE);
    D.due("graft(2), its parent doesn't stand", x.graft(2), STATE);
    x.graft(1);
    x.graft(2);
    x.cut(1);
    D.due("cut(2), fallen", x.cut(2), STATE);
    D.due("graft(2), fallen, not cut itself", x.graft(2), STATE);
    D.due("graft(1)", x.graft(1), 2);
  }

  /** A set told thrice: bits, how many, price. */
  private static void mindsDue(VotesOnTree x, int v, int sort, int bits, int many, int worth) {
    D.due("minds(" + v + ", " + sort + ", 0)", x.minds(v, sort, 0), bits);
    D.due("minds(" + v + ", " + sort + ", 1)", x.minds(v, sort, 1), many);
    D.due("minds(" + v + ", " + sort + ", 2)", x.minds(v, sort, 2), worth);
  }

  private static void mindsFewestAndLeast() {
    D.scene("promise 13, three forks");
    VotesOnTree x = Dues.oak(0, 0, 0, 0, 0, 0, 0, 0, 0);
    mindsDue(x, 0, 0, 0, 0, 0);
    mindsDue(x, 1, 0, 6, 2, 2);
    mindsDue(x, 1, 1, 6, 2, 2);
    Dues.rule(x, "costs 1;falls 1;worth (node=1)*9+1;");
    mindsDue(x, 1, 0, 6, 2, 11);
    mindsDue(x, 1, 1, 12, 2, 2);
    Dues.rule(x, "costs 1;falls 1;worth 0;");
    mindsDue(x, 1, 1, 6, 2, 0);
    x.set(1, 1, 1);
    x.set(1, 3, 1);
    mindsDue(x, 0, 0, 2, 1, 0);
    mindsDue(x, 1, 0, 0, 0, 0);
    D.due("law(), nothing is changed", x.law(), 1);
    D.scene("promise 13, more that are worth less");
    VotesOnTree y = Dues.oak(0, MISTLE, 0, 0, FORK, 0, 0, FORK, 0);
    y.set(3, 0, 1);
    Dues.rule(y, "costs 1;falls 1;worth 4+(node=1)*6;");
    mindsDue(y, 1, 0, 2, 1, 10);
    mindsDue(y, 1, 1, 12, 2, 8);
    Dues.rule(y, "costs 1;falls 1;worth 4+(node=1)*4;");
    mindsDue(y, 1, 1, 2, 1, 8);
    D.scene("promise 13, twigs alone");
    VotesOnTree z = Dues.oak(0, FORK, 0, 1, FORK, 0);
    mindsDue(z, 1, 0, 4, 1, 1);
  }

  private static void mindsNoneAndRefusals() {
    D.scene("promise 13, NONE, BAD");
    VotesOnTree x = Dues.oak(0, HOLLOW, 0, 1, FORK, 0);
    for (int sort = 0; sort <= 1; sort++) {
      mindsDue(x, 1, sort, NONE, NONE, NONE);
      mindsDue(x, 0, sort, 0, 0, 0);
    }
    int[][] bad = {{-1, 0, 0}, {2, 0, 0}, {0, -1, 0}, {0, 2, 0}, {0, 0, -1}, {0, 0, 3}, {1, 2, 0}, {1, 0, 3}};
    for (int[] b : bad) {
      D.due("minds(" + b[0] + ", " + b[1] + ", " + b[2] + ")", x.minds(b[0], b[1], b[2]), BAD);
      D.due("cuts(" + b[0] + ", " + b[1] + ", " + b[2] + ")", x.cuts(b[0], b[1], b[2]), BAD);
    }
  }

  private static void cutsDue(VotesOnTree x, int v, int sort, int bits, int many, int costs) {
    D.due("cuts(" + v + ", " + sort + ", 0)", x.cuts(v, sort, 0), bits);
    D.due("cuts(" + v + ", " + sort + ", 1)", x.cuts(v, sort, 1), many);
    D.due("cuts(" + v + ", " + sort + ", 2)", x.cuts(v, sort, 2), costs);
  }

  private static void cutsFewestAndLeast() {
    D.scene("promise 14, ordinary");
    VotesOnTree x = Dues.oak(0, FORK, 1, 0, FORK, 1, 2, FORK, 0, 2, FORK, 0);
    D.due("law()", x.law(), 0);
    cutsDue(x, 0, 0, 0, 0, 0);
    cutsDue(x, 1, 0, 4, 1, 7);
    cutsDue(x, 1, 1, 4, 1, 7);
    Dues.rule(x, "costs twigs*3;falls 1;worth 1;");
    cutsDue(x, 1, 1, 4, 1, 6);
    Dues.rule(x, "costs kids*50+1;falls 1;worth 1;");
    cutsDue(x, 1, 0, 4, 1, 99);
    cutsDue(x, 1, 1, 24, 2, 2);
    Dues.rule(x, "costs 0;falls 1;worth 1;");
    cutsDue(x, 1, 1, 4, 1, 0);
    D.due("count(1), nothing is cut", x.count(1), 5);
    D.scene("promise 14, what is cut already");
    x.cut(3);
    cutsDue(x, 1, 0, 4, 1, 0);
    x.cut(4);
    D.due("law(), 2 is a twig by its mind", x.law(), 1);
    cutsDue(x, 1, 0, 0, 0, 0);
    cutsDue(x, 0, 0, 6, 2, 0);
  }

  private static void cutsNoneAndRefusals() {
    D.scene("promise 14, NONE");
    VotesOnTree x = new VotesOnTree();
    cutsDue(x, 1, 0, NONE, NONE, NONE);
    cutsDue(x, 1, 1, NONE, NONE, NONE);
    x.grow(0, FORK, 0);
    cutsDue(x, 1, 0, NONE, NONE, NONE);
    x.set(3, 0, 1);
    cutsDue(x, 1, 0, 2, 1, 4);
  }

  private static void lopsidedBothWays() {
    D.scene("promise 15");
    VotesOnTree three = Dues.oak(0, 0, 1, 0, 0, 1, 0, 0, 1);
    D.due("three forks: lopsided(0)", three.lopsided(0), 2);
    D.due("three forks: lopsided(1)", three.lopsided(1), 1);
    VotesOnTree two = Dues.oak(0, 0, 1, 0, 0, 1);
    D.due("two forks: lopsided(0)", two.lopsided(0), 2);
    D.due("two forks: lopsided(1)", two.lopsided(1), 1);
    two.set(3, 0, 1);
    D.due("two forks, LAST yes: lopsided(0)", two.lopsided(0), 1);
    D.due("two forks, LAST yes: lopsided(1)", two.lopsided(1), 0);
    VotesOnTree twins = Dues.oak(0, TWINS, 0, 0, FORK, 1, 0, FORK, 1, 0, FORK, 1);
    D.due("twins: lopsided(0)", twins.lopsided(0), 1);
    D.due("twins: lopsided(1)", twins.lopsided(1), 3);
    VotesOnTree hollow = Dues.oak(0, HOLLOW, 0, 1, FORK, 0);
    D.due("hollow: lopsided(0)", hollow.lopsided(0), NONE);
    D.due("hollow: lopsided(1)", hollow.lopsided(1), 1);
    hollow.set(3, 0, 1);
    D.due("hollow, LAST yes: lopsided(0)", hollow.lopsided(0), 0);
    D.due("hollow, LAST yes: lopsided(1)", hollow.lopsided(1), NONE);
    int[] bad = {-1, 2, Integer.MIN_VALUE, Integer.MAX_VALUE};
    for (int what : bad) {
      D.due("lopsided(" + what + ")", three.lopsided(what), BAD);
    }
  }

  private static void countsAndFair() {
    D.scene("promise 16");
    VotesOnTree three = Dues.oak(0, 0, 1, 0, 0, 0, 0, 0, 1);
    for (int node = 1; node <= 3; node++) {
      D.due("three forks: counts(" + node + ")", three.counts(node), 4);
    }
    D.due("three forks: counts(NONE)", three.counts(NONE), 1);
    VotesOnTree twins = Dues.oak(0, FORK, 0, 0, TWINS, 0, 0, FORK, 1, 0, FORK, 1);
    D.due("twins: counts(2)", twins.counts(2), 16);
    D.due("twins: counts(1)", twins.counts(1), 0);
    D.due("twins: counts(NONE)", twins.counts(NONE), 0);
    VotesOnTree mistle = Dues.oak(0, MISTLE, 0, 0, FORK, 0, 0, FORK, 0);
    D.due("mistle: counts(1)", mistle.counts(1), 6);
    D.due("mistle: counts(2)", mistle.counts(2), 2);
    D.due("mistle: counts(3)", mistle.counts(3), 2);
    D.due("mistle: counts(NONE)", mistle.counts(NONE), 0);
    mistle.grow(3, 0, 1);
    mistle.cut(2);
    D.due("counts(4), with the mistle", mistle.counts(4), 0);
    D.due("counts(1)", mistle.counts(1), 4);
    int[] bad = {0, 2, 3, 5, -2, 12, Integer.MIN_VALUE, Integer.MAX_VALUE};
    for (int node : bad) {
      D.due("counts(" + node + ")", mistle.counts(node), BAD);
    }
    VotesOnTree eleven = new VotesOnTree();
    for (int i = 0; i < 11; i++) {
      eleven.grow(0, FORK, i % 2);
    }
    for (int node = 1; node <= 11; node++) {
      D.due("eleven forks: counts(" + node + ")", eleven.counts(node), 504);
    }
    D.due("eleven forks: counts(NONE)", eleven.counts(NONE), 1);
    D.due("no twigs: counts(NONE)", new VotesOnTree().counts(NONE), 1);
    D.due("no twigs: counts(0)", new VotesOnTree().counts(0), BAD);
    VotesOnTree hollow = Dues.oak(0, HOLLOW, 0, 1, FORK, 0);
    D.due("hollow: counts(2)", hollow.counts(2), 0);
    D.due("hollow: counts(NONE)", hollow.counts(NONE), 1);
  }
}
