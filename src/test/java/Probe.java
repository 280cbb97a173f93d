import java.util.ArrayList;
import java.util.List;

/**
 * Tells all that can be seen of an object through its face. Telling it changes the object (an image is laid back, a
 * text is read, sheets are laid anew), and an object answers 512 calls alone: so each part is told of an object of
 * its own, made by the same scene.
 */
final class Probe {
  interface Scene {
    VotesOnTree make();
  }

  private Probe() {
  }

  static List<String> of(Scene scene) {
    List<String> told = new ArrayList<>();
    tree("now", scene.make(), told);
    VotesOnTree kept = scene.make();
    told.add("back() " + kept.back());
    tree("as in the image", kept, told);
    texts(scene.make(), told);
    tape(scene.make(), told);
    for (int sheet = 0; sheet < 4; sheet++) {
      items(scene.make(), sheet, told);
    }
    return told;
  }

  private static void tree(String when, VotesOnTree x, List<String> told) {
    for (int what = 0; what <= 6; what++) {
      told.add(when + ": count(" + what + ") " + x.count(what));
    }
    int size = x.count(0);
    for (int node = 0; node < size; node++) {
      for (int what = 0; what <= 9; what++) {
        told.add(when + ": told(" + node + ", " + what + ") " + x.told(node, what));
      }
      for (int what = 0; what <= 2; what++) {
        told.add(when + ": asks(" + node + ", " + what + ") " + x.asks(node, what));
      }
    }
    // Which nodes are cut themselves shows, from the trunk on, as they are grafted.
    for (int node = 1; node < size; node++) {
      told.add(when + ": graft(" + node + ") " + x.graft(node));
    }
  }

  private static void texts(VotesOnTree x, List<String> told) {
    int size = x.count(3);
    for (int text = 0; text < size; text++) {
      told.add("force(" + text + ") " + x.force(text));
      for (int what = 0; what <= 2; what++) {
        told.add("text " + text + ": asks(0, " + what + ") " + x.asks(0, what));
      }
    }
  }

  /** What is on THE TAPE shows by its fault, or by what it comes to once it is ended. */
  private static void tape(VotesOnTree x, List<String> told) {
    String end = "*2;falls 3;worth 4;";
    for (int i = 0; i < end.length(); i++) {
      told.add("feed " + x.feed(end.charAt(i)));
    }
    int text = x.text();
    told.add("text() " + text);
    if (text >= 0) {
      x.force(text);
      told.add("text read from the tape: asks(0, 0) " + x.asks(0, 0));
    }
  }

  private static int sortOf(VotesOnTree x, int sheet) {
    for (int sort = 0; sort < 3; sort++) {
      if (x.nodes(sheet, sort, 0, 0) == 0) {
        return sort;
      }
    }
    return -1;
  }

  private static int sizeOf(VotesOnTree x, int sheet) {
    int n = 0;
    while (n < 99 && x.copy(sheet, n, sheet, n, 1) == 1) {
      n++;
    }
    return n;
  }

  /** An item shows as NUMBER and MIND of a node, if it can be such. */
  private static void items(VotesOnTree x, int sheet, List<String> told) {
    int sort = sortOf(x, sheet);
    int size = sort < 0 ? 0 : sizeOf(x, sheet);
    told.add("sheet " + sheet + ": sort " + sort + ", size " + size);
    x.back();
    x.image();
    int scrap = (sheet + 1) % 4;
    int node = x.count(0);
    for (int i = 0; i < size; i++) {
      x.sheet(scrap, sort, 3);
      x.copy(sheet, i, scrap, 2, 1);
      boolean came = x.nodes(scrap, sort, 0, 1) == 1;
      told.add("sheet " + sheet + ", item " + i + " " + (came ? x.told(node, 1) * 10 + x.told(node, 2) : -1));
      x.back();
    }
  }

  /** What one tells and the other doesn't, in short; empty, if they are alike. */
  static String unlike(List<String> one, List<String> other) {
    if (one.equals(other)) {
      return "";
    }
    for (int i = 0; i < Math.min(one.size(), other.size()); i++) {
      if (!one.get(i).equals(other.get(i))) {
        return one.get(i) + " became " + other.get(i);
      }
    }
    return one.size() + " things told became " + other.size();
  }
}
