import java.lang.reflect.Method;
import java.lang.reflect.Modifier;
import java.util.ArrayList;
import java.util.Comparator;
import java.util.List;
import java.util.Random;

/**
 * Random runs of calls on VotesOnTree and on its twin: every answer must be alike. Arguments: how many short runs, the
 * first seed, how many long runs (each of all the 512 calls that an object is used for).
 */
public final class TwinTest {
  private static final int MOST_CALLS = 512;
  private static final int[] EDGES = {Integer.MIN_VALUE, Integer.MAX_VALUE, -2, -1, 40, 41, 99, 100, 101, 160, 255, 256};
  private static final String[] BITS = {"costs", "falls", "worth", "or", "and", "not", "node", "depth", "kids", "twigs", "last",
    "year", "(", ")", ";", "+", "-", "*", "<", "=", " ", "\n", "7", "12345", "nod", "#", "not ", "-", "(", "((((", "not not "};

  private final Random random;
  private final VotesOnTree one = new VotesOnTree();
  private final Twin other = new Twin();
  private final List<String> run = new ArrayList<>();
  private boolean alike = true;
  /** How many calls the object has had: nothing is promised behind the 512th. */
  private int calls = 0;

  private TwinTest(long seed) {
    random = new Random(seed);
  }

  public static void main(String[] args) throws Exception {
    int runs = args.length > 0 ? Integer.parseInt(args[0]) : 1500;
    int longRuns = args.length > 2 ? Integer.parseInt(args[2]) : 300;
    long first = args.length > 1 ? Long.parseLong(args[1]) : 1;
    List<Method> methods = new ArrayList<>();
    for (Method m : VotesOnTree.class.getDeclaredMethods()) {
      if (Modifier.isPublic(m.getModifiers())) methods.add(m);
    }
    methods.sort(Comparator.comparing(Method::getName));
    for (long seed = first; seed < first + runs; seed++) {
      TwinTest test = new TwinTest(seed);
      test.playShort(methods);
      test.mustBeAlike("short run " + seed);
    }
    for (long seed = first; seed < first + longRuns; seed++) {
      TwinTest test = new TwinTest(~seed);
      test.playLong(methods);
      test.mustBeAlike("long run " + seed);
    }
    System.out.println(runs + " short runs, " + longRuns + " long runs are alike");
  }

  private void mustBeAlike(String name) {
    if (!alike) {
      System.out.println(name + ":\n" + String.join("\n", run));
      System.exit(1);
    }
  }

  private void playShort(List<Method> methods) throws Exception {
    sprout(random.nextInt(12));
    if (random.nextBoolean()) tellText();
    for (int i = 0; i < 60 && alike; i++) {
      step(methods);
    }
  }

  /** Goes on till the last call that is promised; an oak that is cut bare is mended, so that it has votes till then. */
  private void playLong(List<Method> methods) throws Exception {
    sprout(3 + random.nextInt(6));
    while (alike && calls < MOST_CALLS) {
      if (random.nextInt(12) == 0) mend();
      step(methods);
    }
  }

  private void mend() throws Exception {
    int sort = random.nextInt(4);
    if (sort == 0) {
      call("image");
    } else if (sort == 1) {
      call("back");
    } else {
      for (int node = 1; node < other.count(0); node++) {
        if (other.told(node, 6) == 0) call("graft", node);
      }
      if (other.count(0) < 12) sprout(1);
    }
  }

  private void sprout(int n) throws Exception {
    // Some oaks are broad, some deep: parents are among all nodes, or the first ones, or the last ones.
    int shape = random.nextInt(3);
    for (int i = n; i > 0; i--) {
      int size = other.count(0), some = Math.min(size, 2);
      int parent = shape == 0 ? random.nextInt(size) : shape == 1 ? random.nextInt(some) : size - 1 - random.nextInt(some);
      call("grow", parent, random.nextInt(6), random.nextInt(10) * 10 * random.nextInt(2) + random.nextInt(2));
    }
  }

  private void step(List<Method> methods) throws Exception {
    switch (random.nextInt(16)) {
      case 0: if (random.nextBoolean()) tellText(); break;
      case 1: call("force", random.nextInt(other.count(3))); break;
      case 2: call("set", random.nextInt(5), anyNode(), random.nextInt(2)); break;
      case 3: call("set", 2, anyNode(), random.nextInt(101)); break;
      case 4: tellSheet(); break;
      case 5: call(random.nextBoolean() ? "cut" : "graft", anyNode()); break;
      case 6: call("set", 3, random.nextBoolean() ? 0 : anyNode(), random.nextInt(2)); break;
      case 7:
      case 8:
      case 9: goodCall(); break;
      default: anyCall(methods.get(random.nextInt(methods.size()))); break;
    }
  }

  private int anyNode() {
    return random.nextInt(other.count(0));
  }

  private void goodCall() throws Exception {
    switch (random.nextInt(13)) {
      case 0:
      case 1: call("minds", random.nextInt(2), random.nextInt(2), random.nextInt(3)); break;
      case 2:
      case 3: call("cuts", random.nextInt(2), random.nextInt(2), random.nextInt(3)); break;
      case 4: call("lopsided", random.nextInt(2)); break;
      case 5: call("counts", random.nextInt(3) == 0 ? -1 : anyNode()); break;
      case 6: call("sure", random.nextInt(2), random.nextInt(2)); break;
      case 7: call("prop"); break;
      case 8: call("turns", random.nextInt(5), random.nextInt(2)); break;
      case 9: call("chance", random.nextInt(), 1 + random.nextInt(20), random.nextInt(2)); break;
      case 10: call("told", anyNode(), random.nextInt(10)); break;
      case 11: call("asks", anyNode(), random.nextInt(3)); break;
      default: call("taken", anyNode(), random.nextInt(6)); break;
    }
  }

  private void anyCall(Method m) throws Exception {
    int[] args = new int[m.getParameterCount()];
    for (int i = 0; i < args.length; i++) {
      args[i] = anyNumber();
    }
    if (m.getName().equals("image") && random.nextInt(3) > 0) return;
    call(m.getName(), args);
  }

  private int anyNumber() {
    int sort = random.nextInt(20);
    if (sort == 0) return EDGES[random.nextInt(EDGES.length)];
    if (sort == 1) return random.nextInt();
    if (sort < 6) return random.nextInt(13) - 1;
    return random.nextInt(sort < 12 ? 2 : 4);
  }

  private void tellSheet() throws Exception {
    int sheet = random.nextInt(4), sort = random.nextInt(3), n = random.nextInt(5) * 2 + (random.nextInt(6) == 0 ? 1 : 0);
    call("sheet", sheet, sort, n);
    for (int i = 0; i < n; i++) {
      int v = i % 2 == 1 ? random.nextInt(3) : anyNode();
      call("cell", sheet, i, random.nextInt(12) == 0 ? v + 256 : v);
    }
    if (random.nextBoolean()) {
      call("whoCut", sheet, 0);
      call("whoCut", sheet, 1);
    } else {
      call("nodes", sheet, sort, random.nextInt(4), random.nextInt(4));
    }
  }

  private void tellText() throws Exception {
    StringBuilder text = new StringBuilder();
    text.append("costs ").append(anyE(3)).append(";falls ").append(anyE(2)).append(";worth ").append(anyE(2)).append(";");
    for (int k = random.nextInt(3); k > 0; k--) {
      int from = random.nextInt(text.length()), to = Math.min(text.length(), from + random.nextInt(4));
      text.replace(from, to, BITS[random.nextInt(BITS.length)]);
    }
    if (random.nextInt(8) == 0) text.setLength(random.nextInt(text.length()));
    for (int i = 0; i < text.length(); i++) {
      call("feed", text.charAt(i));
    }
    call("text");
    if (random.nextBoolean()) call("force", other.count(3) - 1);
  }

  private String anyE(int deep) {
    int sort = deep == 0 ? random.nextInt(3) : random.nextInt(10);
    switch (sort) {
      case 0: return String.valueOf(random.nextInt(random.nextBoolean() ? 30 : 10000));
      case 1:
      case 2: return BITS[6 + random.nextInt(6)];
      case 3: return "(" + anyE(deep - 1) + ")";
      case 4: return "-" + anyE(deep - 1);
      case 5: return "not " + anyE(deep - 1);
      case 6: return anyE(deep - 1) + (random.nextBoolean() ? "<" : "=") + anyE(deep - 1);
      case 7: return anyE(deep - 1) + (random.nextBoolean() ? " or " : " and ") + anyE(deep - 1);
      case 8: return anyE(deep - 1) + (random.nextBoolean() ? "+" : "-") + anyE(deep - 1);
      default: return anyE(deep - 1) + "*" + anyE(deep - 1);
    }
  }

  private void call(String name, int... args) throws Exception {
    if (!alike || calls >= MOST_CALLS) return;
    calls++;
    Class<?>[] types = new Class<?>[args.length];
    Object[] boxed = new Object[args.length];
    StringBuilder told = new StringBuilder(name);
    for (int i = 0; i < args.length; i++) {
      types[i] = int.class;
      boxed[i] = args[i];
      told.append(' ').append(args[i]);
    }
    long got = ((Number) VotesOnTree.class.getMethod(name, types).invoke(one, boxed)).longValue();
    long want = ((Number) Twin.class.getMethod(name, types).invoke(other, boxed)).longValue();
    told.append(" -> ").append(got);
    if (got != want) {
      told.append(", the twin answers ").append(want);
      alike = false;
    }
    run.add(told.toString());
  }
}
