/** What the tests by hand share: a tally of answers that are not as due, and short ways to set a scene. */
final class Dues {
  private int wrong = 0;
  private int asked = 0;
  private String scene = "";

  void scene(String name) {
    scene = name;
  }

  void due(String call, long got, long want) {
    asked++;
    if (got != want) {
      wrong++;
      System.out.println(scene + ": " + call + " answered " + got + ", due is " + want);
    }
  }

  /** Ends the program, with 1 if an answer was wrong. */
  void end() {
    System.out.println(asked + " answers looked at, " + wrong + " not as due");
    if (wrong != 0 || asked == 0) {
      System.exit(1);
    }
  }

  /** Lays a text on THE TAPE and answers what text() says of it. */
  static int text(VotesOnTree x, String text) {
    for (int i = 0; i < text.length(); i++) {
      x.feed(text.charAt(i));
    }
    return x.text();
  }

  /** Makes the text THE RULE. */
  static void rule(VotesOnTree x, String text) {
    x.force(text(x, text));
  }

  /** An oak of nodes told three by three, as of grow(). */
  static VotesOnTree oak(int... nodes) {
    VotesOnTree x = new VotesOnTree();
    for (int i = 0; i + 2 < nodes.length; i += 3) {
      x.grow(nodes[i], nodes[i + 1], nodes[i + 2]);
    }
    return x;
  }

  /** Lays a sheet of ints with these items. */
  static void ints(VotesOnTree x, int sheet, int... items) {
    x.sheet(sheet, 2, items.length);
    for (int i = 0; i < items.length; i++) {
      x.cell(sheet, i, items[i]);
    }
  }
}
