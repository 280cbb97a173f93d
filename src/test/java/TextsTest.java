/** Promises 6 to 8: feed, text, force, and how texts are read and come to values. */
public final class TextsTest {
  private static final int BAD = VotesOnTree.BAD, FULL = VotesOnTree.FULL;
  private static final String REST = ";falls 1;worth 1;";
  private static final Dues D = new Dues();

  public static void main(String[] args) {
    feedCountsAndRefuses();
    textNumbersAndFull();
    textFaults();
    textFaultsOfOpenOnes();
    textsThatAreGood();
    values();
    forceRules();
    D.end();
  }

  private static void feedCountsAndRefuses() {
    D.scene("promise 6");
    VotesOnTree x = new VotesOnTree();
    int[] bad = {-1, 256, Integer.MIN_VALUE, Integer.MAX_VALUE};
    for (int letter : bad) {
      D.due("feed(" + letter + ")", x.feed(letter), BAD);
    }
    for (int i = 1; i <= 160; i++) {
      D.due("feed", x.feed(i % 2 == 0 ? 0 : 255), i);
    }
    D.due("feed(32), the 161st", x.feed(32), FULL);
    D.due("feed(256), full", x.feed(256), BAD);
    D.due("count(4)", x.count(4), 160);
  }

  private static void textNumbersAndFull() {
    D.scene("promise 7, numbers");
    VotesOnTree x = new VotesOnTree();
    for (int n = 1; n <= 5; n++) {
      D.due("a fault between", Dues.text(x, "costs"), -105);
      D.due("count(4)", x.count(4), 0);
      D.due("text()", Dues.text(x, "costs " + n + REST), n);
      D.due("count(3)", x.count(3), n + 1);
      D.due("count(4)", x.count(4), 0);
    }
    D.due("text(), the 7th", Dues.text(x, "costs 9" + REST), FULL);
    D.due("count(4), it stays", x.count(4), 7 + REST.length());
    D.due("count(3)", x.count(3), 6);
    D.due("count(5), text() forces nothing", x.count(5), 0);
    VotesOnTree y = new VotesOnTree();
    D.due("text() of an empty tape", y.text(), -100);
  }

  private static void fault(String text, int place) {
    VotesOnTree x = new VotesOnTree();
    D.due("'" + text + "'", Dues.text(x, text), -100 - place);
    D.due("'" + text + "': count(4)", x.count(4), 0);
    D.due("'" + text + "': count(3)", x.count(3), 1);
  }

  private static void textFaults() {
    D.scene("promise 7, FAULT");
    fault("", 0);
    fault("  \n", 3);
    fault("cost 1;", 0);
    fault("costsnode;", 0);
    fault("  costs", 7);
    fault("costs ", 6);
    fault("costs ;", 6);
    fault("costs 1", 7);
    fault("costs 1 falls", 8);
    fault("costs 1;falls 1;worth 1", 23);
    fault("costs 1;falls 1;worth 1  ", 25);
    fault("costs 1;falls 1;worth 1; x", 25);
    fault("costs 1;falls 1;worth 1;;", 24);
    fault("costs 1;falls 1;worth 1;costs", 24);
    fault("falls 1;", 0);
    fault("costs 1;worth 1;", 8);
    fault("costs 12345;", 6);
    fault("costs 00001;", 6);
    fault("costs 1 2;", 8);
    fault("costs node node;", 11);
    fault("costs 1+;", 8);
    fault("costs +1;", 6);
    fault("costs 1*;", 8);
    fault("costs 1 < 2 < 3;", 12);
    fault("costs 1 = 2 = 3;", 12);
    fault("costs not 1 < 2 = 3;", 16);
    fault("costs 1 + not 2;", 10);
    fault("costs 1 < not 2;", 10);
    fault("costs -not 1;", 7);
    fault("costs not;", 9);
    fault("costs (1;", 8);
    fault("costs 1);", 7);
    fault("costs ();", 7);
    fault("costs 1 and;", 11);
    fault("costs 1 or or 1;", 11);
    fault("costs A;", 6);
    fault("costs 1\t;", 7);
    fault("costs 1\r;", 7);
    fault("costs costs;", 6);
    fault("costs nodes;", 6);
    fault("costs 1 or;", 10);
    fault("costs 1 <;", 9);
    fault("costs 1 =;", 9);
    fault("costs 1 -;", 9);
    fault("costs (1 or);", 11);
    fault("costs (1 <);", 10);
    fault("costs 1 worth 1;", 8);
    fault("costs 1 falls 1;", 8);
    fault("costs 1;falls 1;or 1;", 16);
    fault("costs 1;or 1;", 8);
    fault("costs nodez;", 6);
    fault("costs anode;", 6);
    fault("costs xode;", 6);
    fault("costs nodx;", 6);
    fault("costs z;", 6);
    fault("zosts 1;", 0);
    fault("costs 1#", 7);
    fault("costs 1;#", 8);
    fault("costs 1;falls 1;worth 1;#", 24);
    fault("costs " + (char) 233, 6);
    fault("costs 1" + (char) 0, 7);
    fault("costs 1>2;", 7);
    fault("costs 1/2;", 7);
  }

  private static void textFaultsOfOpenOnes() {
    D.scene("promise 7, FAULT of one more than 5 that are open");
    fault("costs ------1;", 11);
    fault("costs ((((((1", 11);
    fault("costs not not not not not not 1", 26);
    fault("costs -(-(-(1", 11);
    fault("costs not(not(not(", 17);
    fault("costs (((((-1", 11);
    fault("costs (((((not 1", 11);
    fault("costs (((((1-1", 14);
    fault("costs (((((1-(", 13);
    fault("costs (((((1-1)))))))", 19);
    fault("costs (1)+((((((1", 15);
    fault("costs 1;falls ------1", 19);
    fault("costs not (((((1", 14);
    fault("costs not -((((1", 14);
  }

  private static void good(String e) {
    D.due("'" + e + "'", Dues.text(new VotesOnTree(), "costs " + e + REST), 1);
  }

  private static void textsThatAreGood() {
    D.scene("promise 7, texts");
    good("-----1");
    good("(((((1)))))");
    good("not not not not not 1");
    good("-1 - -1 - -1 - -1 - -1 - -1 - -1");
    good("(1)+(1)+(1)+(1)+(1)+(1)+(1)");
    good("not 1 and not 1 or not 1 and not 1 or not 1 and not 1");
    good("((((-1)-(-1))))");
    good("not not -(-1)*(--1)");
    good("9999");
    good("0000");
    good("2and 3or 4");
    good("2and(3)or-4");
    D.due("no blanks", Dues.text(new VotesOnTree(), "costs1;falls(1);worth-1;"), 1);
    D.due("blanks", Dues.text(new VotesOnTree(), "\n costs\n1 ;\nfalls 1;worth  \n1\n;\n "), 1);
    StringBuilder longest = new StringBuilder("costs 1;falls 1;worth 1");
    while (longest.length() < 159) {
      longest.append("+1");
    }
    D.due("160 bytes", Dues.text(new VotesOnTree(), longest + ";"), 1);
    D.due("160 bytes that end too early", Dues.text(new VotesOnTree(), longest + "+"), -260);
  }

  /** An E of node 1 of a small oak in year 30: node 1, depth 1, kids 2, twigs 3, last 1. */
  private static void value(String e, int due) {
    VotesOnTree x = Dues.oak(0, 0, 0, 1, 0, 0, 1, 0, 0, 2, 0, 0, 2, 0, 0);
    x.set(3, 1, 1);
    x.set(4, 0, 30);
    D.due("text() of " + e, Dues.text(x, "costs " + e + REST), 1);
    x.force(1);
    D.due(e, x.asks(1, 0), due);
  }

  private static void values() {
    D.scene("promise 7, values");
    value("node", 1);
    value("depth", 1);
    value("kids", 2);
    value("twigs", 3);
    value("last", 1);
    value("year", 30);
    value("0042", 42);
    value("2+3*4", 14);
    value("(2+3)*4", 20);
    value("20-5-3", 12);
    value("20-(5-3)", 18);
    value("2*3*4", 24);
    value("--7", 7);
    value("-7+9", 2);
    value("-2*-3", 6);
    value("9-2*-3", 15);
    value("5 or 0", 1);
    value("0 or 0", 0);
    value("0 or 7", 1);
    value("0-3 or 0", 1);
    value("5 and 7", 1);
    value("5 and 0", 0);
    value("1 or 1 and 0", 1);
    value("(1 or 1) and 0", 0);
    value("not 0", 1);
    value("not 5", 0);
    value("not not 5", 1);
    value("not 1 = 2", 1);
    value("(not 1) = 2", 0);
    value("(not 1) = 0", 1);
    value("not 0 and 0", 0);
    value("3 < 4", 1);
    value("4 < 4", 0);
    value("-1 < 0", 1);
    value("4 = 4", 1);
    value("4 = 5", 0);
    value("1 + 2 < 2 + 2", 1);
    value("(1 < 2) + (2 < 3)", 2);
    value("(5)", 5);
    value("1 < 2 and 3 = 3", 1);
    value("9999*9999*9999 < 0", 1);
    value("9999*9999*9999 + 9999 < 0", 1);
    value("-(9999*9999*9999) < 0", 0);
    value("1 or 0 + 50", 1);
    value("year * 3 + kids * 2 - twigs", 91);
  }

  private static void forceRules() {
    D.scene("promise 8");
    VotesOnTree x = new VotesOnTree();
    D.due("force(1)", x.force(1), BAD);
    D.due("force(-1)", x.force(-1), BAD);
    D.due("force(0)", x.force(0), 0);
    Dues.text(x, "costs 7;falls 8;worth 9;");
    Dues.text(x, "costs 17;falls 18;worth 19;");
    D.due("force(2)", x.force(2), 0);
    D.due("force(3)", x.force(3), BAD);
    D.due("force(max)", x.force(Integer.MAX_VALUE), BAD);
    D.due("count(5)", x.count(5), 2);
    D.due("asks(0, 0)", x.asks(0, 0), 17);
    D.due("force(1)", x.force(1), 2);
    for (int what = 0; what < 3; what++) {
      D.due("asks(0, " + what + ")", x.asks(0, what), 7 + what);
    }
    D.due("force(0)", x.force(0), 1);
    D.due("asks(0, 0)", x.asks(0, 0), 1);
  }
}
