/**
 * The document's sentences on texts that name a boundary case: THE TAPE, tokens, the grammar, FAULT, what may be open,
 * TEXTS, ints that wrap around, bounds of costs, falls, worth.
 */
public final class TextEdgesTest {
  private static final int BAD = VotesOnTree.BAD, FULL = VotesOnTree.FULL;
  private static final String REST = ";falls 1;worth 1;";
  private static final String FIRST = "costs twigs * 3 + 1 ; falls depth * 5 ; worth 1 ;";
  private static final String[] NAMES = {"node", "depth", "kids", "twigs", "last", "year"};
  private static final String[] KEYS = {"costs", "falls", "worth", "or", "and", "not"};
  private static final Dues D = new Dues();

  public static void main(String[] args) {
    tapeOfNoneAndOfAll();
    tapeIsEmptyThen();
    sixTexts();
    everyByte();
    numbersOfFourDigits();
    wordsAsLongAsCanBe();
    keysAndNames();
    blanks();
    everyBeginning();
    nothingBehind();
    loopsOfNoneAndOfMany();
    comparedOnce();
    fiveOpen();
    openTillTheyEnd();
    wrapAround();
    bounds();
    truth();
    forceEach();
    D.end();
  }

  private static void fault(String text, int place) {
    D.due("'" + text + "'", Dues.text(new VotesOnTree(), text), -100 - place);
  }

  private static void good(String text) {
    D.due("'" + text + "'", Dues.text(new VotesOnTree(), text), 1);
  }

  private static String filled(String text, int size) {
    StringBuilder b = new StringBuilder(text);
    while (b.length() < size) {
      b.append(' ');
    }
    return b.toString();
  }

  private static void tapeOfNoneAndOfAll() {
    D.scene("THE TAPE (160 bytes at most)");
    VotesOnTree x = new VotesOnTree();
    D.due("count(4)", x.count(4), 0);
    D.due("feed(-1)", x.feed(-1), BAD);
    D.due("feed(256)", x.feed(256), BAD);
    D.due("count(4)", x.count(4), 0);
    for (int i = 1; i <= 160; i++) {
      D.due("feed", x.feed(i - 1), i);
    }
    D.due("the 161st", x.feed(0), FULL);
    D.due("none such, and full", x.feed(256), BAD);
    D.due("count(4)", x.count(4), 160);
    D.due("text() of it", x.text(), -100);
    D.due("room again", x.feed(255), 1);
    D.scene("a TEXT of 160 bytes");
    good(filled("costs 1" + REST, 160));
    fault(filled("costs 1" + REST, 159) + "x", 159);
    fault(filled("costs 1;falls 1;worth 1", 160), 160);
    StringBuilder sum = new StringBuilder("costs 1");
    while (sum.length() < 160 - REST.length()) {
      sum.append(sum.length() + 2 <= 160 - REST.length() ? "+1" : " ");
    }
    VotesOnTree y = new VotesOnTree();
    D.due("a sum as long as can be", Dues.text(y, sum + REST), 1);
    y.force(1);
    D.due("its ones", y.asks(0, 0), (160 - REST.length() - 5) / 2);
    D.scene("an empty TAPE, one of blanks");
    D.due("text()", new VotesOnTree().text(), -100);
    fault(" ", 1);
    fault("\n", 1);
    fault(filled("", 160), 160);
  }

  private static void tapeIsEmptyThen() {
    D.scene("THE TAPE is empty then");
    VotesOnTree x = new VotesOnTree();
    D.due("a TEXT", Dues.text(x, "costs 1" + REST), 1);
    D.due("count(4)", x.count(4), 0);
    D.due("nothing is left of it", x.text(), -100);
    D.due("a FAULT", Dues.text(x, "costs 1;falls"), -113);
    D.due("count(4)", x.count(4), 0);
    D.due("count(3)", x.count(3), 2);
    D.due("nothing is left of it", Dues.text(x, "1;worth 1;"), -100);
    D.due("a shorter one behind a longer", Dues.text(x, "costs 2" + REST), 2);
    x.force(2);
    D.due("asks(0, 0)", x.asks(0, 0), 2);
    D.due("many digits", Dues.text(x, "costs 12345678"), -106);
    D.due("fewer of them", Dues.text(x, "costs 12"), -108);
    D.due("a long word", Dues.text(x, "costs nodesnodes"), -106);
    D.due("the beginning of it", Dues.text(x, "costs node"), -110);
    D.due("blanks", Dues.text(x, "costs          "), -115);
    D.due("fewer of them", Dues.text(x, "costs  "), -107);
    D.scene("a full TAPE that ends in a NUMBER, a WORD, a blank");
    fault(filled("costs 1;falls 1;worth", 159) + "1", 160);
    fault(filled("costs 1;falls 1;worth", 156) + "9999", 160);
    fault(filled("costs 1;falls 1;worth", 155) + "99999", 155);
    fault(filled("costs 1;falls 1;worth", 156) + "node", 160);
    fault(filled("costs 1;falls 1;worth", 157) + "nod", 157);
    fault(filled("costs 1;falls 1;worth", 160), 160);
    good(filled("costs 1;falls 1;worth 1", 159) + ";");
    good(filled("costs 1;falls 1;worth 1;", 159) + "\n");
  }

  private static void sixTexts() {
    D.scene("6 TEXTS at most, TEXT 0 with them");
    VotesOnTree x = new VotesOnTree();
    D.due("count(3)", x.count(3), 1);
    for (int text = 1; text <= 5; text++) {
      D.due("force of the next", x.force(text), BAD);
      D.due("text()", Dues.text(x, "costs " + 10 * text + REST), text);
      D.due("count(3)", x.count(3), text + 1);
      D.due("count(5), THE RULE stays", x.count(5), 0);
    }
    D.due("the 7th", Dues.text(x, "costs 60" + REST), FULL);
    D.due("THE TAPE stays", x.count(4), 8 + REST.length());
    D.due("once more", x.text(), FULL);
    D.due("count(3)", x.count(3), 6);
    D.due("force(6)", x.force(6), BAD);
    for (int text = 5; text >= 1; text--) {
      D.due("force", x.force(text), text == 5 ? 0 : text + 1);
      D.due("asks(0, 0)", x.asks(0, 0), 10 * text);
    }
    x.image();
    x.back();
    D.due("laid back, it is full still", x.text(), FULL);
  }

  private static boolean isIn(int letter, String all) {
    return letter < 256 && all.indexOf((char) letter) >= 0;
  }

  private static boolean isLetter(int letter) {
    return letter >= 97 && letter <= 122;
  }

  private static boolean isDigit(int letter) {
    return letter >= 48 && letter <= 57;
  }

  private static void everyByte() {
    for (int b = 0; b < 256; b++) {
      char c = (char) b;
      D.scene("byte " + b);
      // At the very first: a blank may stand there, a word takes it to itself, all else can't.
      if (isIn(b, " \n")) {
        good(c + "costs 1" + REST);
      } else {
        fault(c + "costs 1" + REST, 0);
      }
      // In the place of a ONE.
      if (isIn(b, " \n(-")) {
        fault("costs " + c, 7);
      } else {
        fault("costs " + c, isDigit(b) ? 7 : 6);
      }
      // Behind a ONE, where the text then ends.
      if (isIn(b, " \n+-*<=;") || isDigit(b)) {
        fault("costs 1" + c, 8);
      } else {
        fault("costs 1" + c, 7);
      }
      // Behind all.
      if (isIn(b, " \n")) {
        good("costs 1" + REST + c);
      } else {
        fault("costs 1" + REST + c, 7 + REST.length());
      }
      // In a word, and right behind one.
      fault("co" + c + "sts 1" + REST, 0);
      if (isIn(b, "+-*<=")) {
        good("costs node" + c + "1" + REST);
      } else if (isLetter(b)) {
        fault("costs node" + c + "1" + REST, 6);
      } else if (isIn(b, " \n;")) {
        fault("costs node" + c + "1" + REST, 11);
      } else {
        fault("costs node" + c + "1" + REST, 10);
      }
    }
  }

  private static void numbersOfFourDigits() {
    D.scene("NUMBERS (digits, 4 at most)");
    String[] few = {"0", "9", "00", "99", "000", "999", "0000", "0001", "1000", "9999"};
    for (String number : few) {
      good("costs " + number + REST);
    }
    String[] many = {"00000", "00001", "10000", "99999", "123456", "0000000000", "99999999999999999999"};
    for (String number : many) {
      fault("costs " + number + REST, 6);
      fault("costs 1+" + number + REST, 8);
      fault("costs 1 " + number + REST, 8);
      fault("costs 1;falls 1;worth 1;" + number, 24);
    }
    fault("costs 9999 9" + REST, 11);
    fault("costs 12345", 6);
    int[] values = {0, 1, 42, 98, 99};
    for (int value : values) {
      due(String.valueOf(value), value);
      due("00" + (value < 10 ? "0" : "") + value, value);
    }
    due("9999-9900", 99);
    due("1234-1200", 34);
    due("5678-5670", 8);
  }

  private static void wordsAsLongAsCanBe() {
    D.scene("TOKENS, each as long as can be");
    fault("costsnode" + REST, 0);
    fault("costs nodenode" + REST, 6);
    fault("costs 1 andnot 1" + REST, 8);
    fault("costs notnode" + REST, 6);
    fault("costs 1 orr 1" + REST, 8);
    fault("costs noder 1" + REST, 6);
    good("costs 1or 1" + REST);
    good("costs 1or(1)and-1" + REST);
    good("costs not(1)or not-1" + REST);
    good("costs(node)" + REST);
    good("costs-node" + REST);
    good("costs1" + REST);
    fault("costs 1or1or1orr1" + REST, 13);
    good("costs 1or1or1or1" + REST);
    fault("costs 1--" + REST, 9);
    good("costs 1--1" + REST);
    good("costs 1-----1" + REST);
    fault("costs 1<=1" + REST, 8);
    fault("costs 1<<1" + REST, 8);
    fault("costs 1==1" + REST, 8);
    fault("costs 1**1" + REST, 8);
    fault("costs 1++1" + REST, 8);
    good("costs 1+-1" + REST);
    good("costs 1*-1" + REST);
    good("costs 1<-1" + REST);
    good("costs 1=-1" + REST);
    StringBuilder word = new StringBuilder();
    for (int i = 0; i < 160; i++) {
      word.append('n');
    }
    fault(word.toString(), 0);
  }

  private static void keysAndNames() {
    D.scene("KEYS, NAMES");
    for (String name : NAMES) {
      good("costs " + name + REST);
      fault(name + " 1" + REST, 0);
      fault("costs 1;" + name + " 1;worth 1;", 8);
      fault("costs 1 " + name + " 1" + REST, 8);
      for (int i = 1; i < name.length(); i++) {
        fault("costs " + name.substring(0, i) + REST, 6);
        fault("costs " + name.substring(i) + REST, 6);
      }
      fault("costs " + name + "s" + REST, 6);
      for (int i = 0; i < name.length(); i++) {
        fault("costs " + name.substring(0, i) + "x" + name.substring(i + 1) + REST, 6);
      }
      fault("costs " + name.toUpperCase() + REST, 6);
    }
    for (String key : KEYS) {
      fault("costs " + key + REST, key.equals("not") ? 9 : 6);
      fault("costs 1 " + key + REST, key.equals("or") || key.equals("and") ? 9 + key.length() - 1 : 8);
      fault("costs 1+" + key + " 1" + REST, 8);
      if (!key.equals("costs")) {
        fault(key + " 1" + REST, 0);
      }
      if (!key.equals("falls")) {
        fault("costs 1;" + key + " 1;worth 1;", 8);
      }
      if (!key.equals("worth")) {
        fault("costs 1;falls 1;" + key + " 1;", 16);
      }
      fault("costs 1;falls 1;worth 1;" + key, 24);
    }
  }

  private static void blanks() {
    D.scene("blanks (32, 10) may stand between");
    good("\n\n  costs  \n 1 ; \nfalls\n1\n;\n worth 1 ; \n");
    good("costs1;falls1;worth1;");
    good("costs ( 1 ) ; falls - 1 ; worth not 1 ;");
    fault("cos ts 1" + REST, 0);
    fault("costs 1 2" + REST, 8);
    fault("costs no de" + REST, 6);
    fault("costs 1 < < 2" + REST, 10);
    fault("costs\t1" + REST, 5);
    fault("costs\r1" + REST, 5);
    fault("costs" + (char) 0 + "1" + REST, 5);
    fault("costs" + (char) 160 + "1" + REST, 5);
  }

  /** A text that ends too early: its size, or where the word begins that is broken off. */
  private static void everyBeginning() {
    D.scene("the text's size, if it ends too early");
    String[] texts = {FIRST, "costs not(1 or-kids)<twigs and 2=3;falls((1));worth--year*last;"};
    for (String text : texts) {
      for (int size = 0; size < text.length(); size++) {
        int begins = size;
        while (begins > 0 && isLetter(text.charAt(begins - 1))) {
          begins--;
        }
        String word = text.substring(begins, size);
        boolean whole = word.isEmpty();
        for (int i = 0; i < NAMES.length; i++) {
          whole |= word.equals(NAMES[i]) || word.equals(KEYS[i]);
        }
        fault(text.substring(0, size), whole ? size : begins);
        fault(text.substring(0, size) + " ", whole ? size + 1 : begins);
      }
      good(text);
      good(text + " ");
    }
  }

  private static void nothingBehind() {
    D.scene("costs, falls, worth, each once and in this order, and nothing behind");
    fault("costs 1;costs 1;falls 1;worth 1;", 8);
    fault("costs 1;falls 1;falls 1;worth 1;", 16);
    fault("falls 1;costs 1;worth 1;", 0);
    fault("costs 1;worth 1;falls 1;", 8);
    fault("costs 1;falls 1;worth 1", 23);
    fault("costs 1;falls 1;worth 1;;", 24);
    fault("costs 1;falls 1;worth 1; 1", 25);
    fault("costs 1;falls 1;worth 1;costs 1;", 24);
    fault(";costs 1;falls 1;worth 1;", 0);
    fault("costs;falls 1;worth 1;", 5);
    fault("costs 1;falls;worth 1;", 13);
    fault("costs 1;falls 1;worth;", 21);
    fault("costs 1 falls 1 worth 1", 8);
    fault("costs 1;;", 8);
  }

  private static void loopsOfNoneAndOfMany() {
    D.scene("E: AND { or AND } and so on: none, one, many; nothing behind a sign");
    String[] signs = {" or ", " and ", "+", "-", "*"};
    for (String sign : signs) {
      StringBuilder many = new StringBuilder("costs 1");
      for (int i = 0; i < 20; i++) {
        good(many + REST);
        fault(many + sign + REST, many.length() + sign.length());
        fault(many + sign + ")" + REST, many.length() + sign.length());
        fault(many + ")" + REST, many.length());
        many.append(sign).append(1);
      }
    }
    fault("costs or 1" + REST, 6);
    fault("costs and 1" + REST, 6);
    fault("costs + 1" + REST, 6);
    fault("costs * 1" + REST, 6);
    fault("costs < 1" + REST, 6);
    fault("costs = 1" + REST, 6);
    fault("costs ) 1" + REST, 6);
    fault("costs (" + REST, 7);
    fault("costs ()" + REST, 7);
    fault("costs (1" + REST, 8);
    fault("costs (1))" + REST, 9);
    fault("costs 1(1)" + REST, 7);
    fault("costs (1)(1)" + REST, 9);
    fault("costs (1)1" + REST, 9);
    fault("costs (1;)" + REST, 8);
    fault("costs 1 not 1" + REST, 8);
    fault("costs 1+not 1" + REST, 8);
    fault("costs 1*not 1" + REST, 8);
    fault("costs -not 1" + REST, 7);
    fault("costs 1=not 1" + REST, 8);
    good("costs 1=(not 1)" + REST);
    good("costs -(not 1)" + REST);
    good("costs 1 and not 1 or not not 1" + REST);
  }

  private static void comparedOnce() {
    D.scene("SUM, perhaps < or = and a SUM");
    String[] signs = {"<", "="};
    for (String one : signs) {
      good("costs 1" + one + "2" + REST);
      fault("costs 1" + one + REST, 8);
      for (String other : signs) {
        fault("costs 1" + one + "2" + other + "3" + REST, 9);
        fault("costs not 1" + one + "2" + other + "3" + REST, 13);
        good("costs (1" + one + "2)" + other + "3" + REST);
        good("costs 1" + one + "(2" + other + "3)" + REST);
        good("costs 1" + one + "2 and 2" + other + "3" + REST);
        good("costs 1" + one + "2 or not 2" + other + "3" + REST);
      }
    }
  }

  /** Goes through all rows of ( , not, - that can stand so: 5 of them may be open, the sixth is the FAULT. */
  private static void fiveOpen() {
    D.scene("while 5 of these are open");
    String[] openers = {"(", "not ", "-"};
    for (int row = 0; row < 729; row++) {
      StringBuilder text = new StringBuilder("costs ");
      StringBuilder ends = new StringBuilder();
      int rest = row;
      int sixth = 0;
      boolean canStand = true;
      int last = 0;
      for (int k = 0; k < 6; k++) {
        int which = rest % 3;
        rest /= 3;
        // A not can't stand behind a - ahead of a ONE.
        canStand &= k == 0 || last != 2 || which != 1;
        last = which;
        if (k == 5) {
          sixth = text.length();
          if (canStand) {
            good(text + "1" + ends + REST);
          }
        }
        text.append(openers[which]);
        ends.append(which == 0 ? ")" : "");
      }
      if (canStand) {
        fault(text + "1" + ends + REST, sixth);
        fault(text.toString(), sixth);
      }
    }
  }

  private static void openTillTheyEnd() {
    D.scene("a ( till its ) , not and - till what they belong to ends");
    String five = "(((((1)))))";
    good("costs " + five + "+" + five + REST);
    good("costs " + five + " and " + five + REST);
    good("costs (1)+" + five + REST);
    fault("costs (1+" + five + ")" + REST, 13);
    good("costs -1+" + five + REST);
    good("costs -1*" + five + REST);
    good("costs -1-" + five + REST);
    good("costs -----1*-----1" + REST);
    good("costs -----1------1" + REST);
    fault("costs -----1-------1" + REST, 18);
    fault("costs -(1*" + "((((1))))" + ")" + REST, 13);
    good("costs -(1)*" + five + REST);
    good("costs 1-" + five + REST);
    D.scene("a not is open through its < and = , and till the next and, or");
    good("costs not 1<((((1))))" + REST);
    fault("costs not 1<" + five + REST, 16);
    fault("costs not 1=" + five + REST, 16);
    fault("costs not 1+" + five + REST, 16);
    fault("costs not 1*" + five + REST, 16);
    good("costs not 1 and " + five + REST);
    good("costs not 1 or " + five + REST);
    good("costs not not not not not 1 and not not not not not 1" + REST);
    fault("costs not not not not not 1 and not not not not not not 1" + REST, 52);
    good("costs not not not not not 1-1" + REST);
    fault("costs not not not not not 1--1" + REST, 28);
    fault("costs not not not not not 1<-1" + REST, 28);
    good("costs not not not not not 1<1" + REST);
    good("costs not not not not not 1 or -1" + REST);
    good("costs not not not not not 1 and -1" + REST);
    D.scene("what a FAULT left open is not open in the next text");
    String[] opened = {"costs (((((", "costs -----", "costs not not not not not", "costs ((((((", "costs 1;falls (-"};
    for (String open : opened) {
      VotesOnTree x = new VotesOnTree();
      D.due("'" + open + "'", Dues.text(x, open) <= -100 ? 1 : 0, 1);
      D.due("five behind it", Dues.text(x, "costs " + five + ";falls -----1;worth not not not not not 1;"), 1);
      x.force(1);
      D.due("asks(0, 0)", x.asks(0, 0), 1);
      D.due("asks(0, 1)", x.asks(0, 1), 0);
      D.due("asks(0, 2)", x.asks(0, 2), 0);
      D.due("six behind it", Dues.text(x, "costs (" + five + ")" + REST), -111);
    }
    D.scene("each E has its own five");
    good("costs -----1;falls (((((1)))));worth not not not not not 1;");
    fault("costs -----1;falls ((((((1))))));worth 1;", 24);
    fault("costs 1;falls 1;worth ------1;", 27);
  }

  /** An E of a trunk alone in year 12, told by costs, which are 0 .. 99. */
  private static void due(String e, int due) {
    VotesOnTree x = new VotesOnTree();
    x.set(4, 0, 12);
    D.due("text() of " + e, Dues.text(x, "costs " + e + REST), 1);
    x.force(1);
    D.due(e, x.asks(0, 0), due);
  }

  private static void wrapAround() {
    D.scene("an E is an int (32 bits, wrapping)");
    String two31 = "(8192*8192*32)";
    due("8192*8192*31<0", 0);
    due("8192*8192*32<0", 1);
    due("8192*8192*63<0", 1);
    due("8192*8192*64", 0);
    due("8192*8192*64=0", 1);
    due("8192*8192*64+7", 7);
    due("8192*8192*65=8192*8192", 1);
    due(two31 + "<0", 1);
    due("-" + two31 + "=" + two31, 1);
    due("0-" + two31 + "=" + two31, 1);
    due(two31 + "-1", 99);
    due("0<" + two31 + "-1", 1);
    due("(" + two31 + "-1)+1<0", 1);
    due(two31 + "+" + two31, 0);
    due(two31 + "*2", 0);
    due(two31 + "*3=" + two31, 1);
    due(two31 + "<1", 1);
    due("1<" + two31, 0);
    due(two31 + "-1<0", 0);
    due("not " + two31, 0);
    due(two31 + " and 1", 1);
    due(two31 + " or 0", 1);
    due("9999*9999*22<0", 1);
    due("9999*9999*43", 99);
    due("9999*9999*43=4172*1000+747", 1);
  }

  private static void boundsDue(String e, int costs, int falls, int worth) {
    VotesOnTree x = Dues.oak(0, 0, 0);
    D.due("text() of " + e, Dues.text(x, "costs " + e + ";falls " + e + ";worth " + e + ";"), 1);
    x.force(1);
    for (int node = 0; node <= 1; node++) {
      D.due(e + ": asks(" + node + ", 0)", x.asks(node, 0), costs);
      D.due(e + ": asks(" + node + ", 1)", x.asks(node, 1), falls);
      D.due(e + ": asks(" + node + ", 2)", x.asks(node, 2), worth);
    }
  }

  private static void bounds() {
    D.scene("costs 0 .. 99, falls 0 .. 100, worth 0 .. 99, else the bound");
    boundsDue("0", 0, 0, 0);
    boundsDue("-1", 0, 0, 0);
    boundsDue("1", 1, 1, 1);
    boundsDue("98", 98, 98, 98);
    boundsDue("99", 99, 99, 99);
    boundsDue("100", 99, 100, 99);
    boundsDue("101", 99, 100, 99);
    boundsDue("9999", 99, 100, 99);
    boundsDue("0-9999", 0, 0, 0);
    boundsDue("8192*8192*32", 0, 0, 0);
    boundsDue("8192*8192*32-1", 99, 100, 99);
    D.scene("bounds hold for each NODE alone, ahead of the sum");
    VotesOnTree x = Dues.oak(0, 0, 0, 0, 0, 0, 0, 0, 0);
    Dues.rule(x, "costs 500;falls 0;worth 150-node*100;");
    D.due("minds(1, 1, 0): 2 and 3 are worth 0", x.minds(1, 1, 0), 12);
    D.due("minds(1, 1, 2)", x.minds(1, 1, 2), 0);
    D.due("minds(1, 0, 2): 50 and 0", x.minds(1, 0, 2), 50);
    x.set(3, 0, 1);
    D.due("cuts(1, 1, 2): three of 99", x.cuts(1, 1, 2), 297);
  }

  private static void truth() {
    D.scene("of or, and, not, <, = 1 or 0 (what is not 0 is true)");
    String[] values = {"0", "1", "2", "(-1)", "(0-5)", "99", "(8192*8192*32)"};
    for (int i = 0; i < values.length; i++) {
      due("not " + values[i], i == 0 ? 1 : 0);
      due("not not " + values[i], i == 0 ? 0 : 1);
      for (int j = 0; j < values.length; j++) {
        due(values[i] + " or " + values[j], i == 0 && j == 0 ? 0 : 1);
        due(values[i] + " and " + values[j], i == 0 || j == 0 ? 0 : 1);
        due(values[i] + "=" + values[j], i == j ? 1 : 0);
      }
    }
    due("1<2", 1);
    due("2<2", 0);
    due("3<2", 0);
    due("(5 and 7)+(5 or 0)+(not 3)", 2);
    due("0 and 0 or 1", 1);
    due("1 or 0 and 0", 1);
    due("not 0 or 1", 1);
    due("not 1 and 0", 0);
    due("not (1 and 0)", 1);
    due("not 2=2", 0);
    due("not 1+1=2", 0);
    due("1+2*3-4", 3);
    due("9-4-3", 2);
    due("9-(4-3)", 8);
    due("-3+5", 2);
    due("-3*-5", 15);
    due("--3", 3);
    due("---3+5", 2);
    due("2*3=6", 1);
    due("5<2*3", 1);
    due("year", 12);
    due("-year+20", 8);
    due("year*year-99", 45);
  }

  private static void forceEach() {
    D.scene("A TEXT is THE RULE: which was");
    VotesOnTree x = new VotesOnTree();
    D.due("force(0)", x.force(0), 0);
    D.due("force(-1)", x.force(-1), BAD);
    D.due("force(1)", x.force(1), BAD);
    for (int text = 1; text <= 5; text++) {
      String numbers = "costs " + text + ";falls " + 2 * text + ";worth " + 3 * text + ";";
      D.due("text()", Dues.text(x, numbers), text);
    }
    int was = 0;
    int[] order = {5, 5, 1, 4, 2, 3, 0, 5};
    for (int text : order) {
      D.due("force(" + text + ")", x.force(text), was);
      was = text;
      D.due("count(5)", x.count(5), text);
      D.due("asks(0, 0)", x.asks(0, 0), text == 0 ? 1 : text);
      D.due("asks(0, 1)", x.asks(0, 1), 2 * text);
      D.due("asks(0, 2)", x.asks(0, 2), text == 0 ? 1 : 3 * text);
    }
    D.due("force(6)", x.force(6), BAD);
    D.due("count(5)", x.count(5), 5);
  }
}
