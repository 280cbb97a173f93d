import java.math.BigInteger;
import java.util.ArrayList;
import java.util.Arrays;
import java.util.HashMap;
import java.util.List;
import java.util.Map;
import java.util.Set;
import java.util.TreeSet;

/**
 * The document told a second time, as plainly as can be and without a thought of speed or room: nodes are
 * objects, kinds are classes, sets are sets, odds are big numbers. TwinTest holds VotesOnTree against it.
 */
public final class Twin {
  private static final int NONE = -1, BAD = -2, STATE = -3, FULL = -4;
  private static final long NO = -4611686018427387904L;

  private static class Fork {
    int weighs(int b, int number) { return 1; }
    int even(int last, int number) { return last; }
  }

  private static class Hollow extends Fork {
    @Override int weighs(int b, int number) { return b > number ? 0 : super.weighs(b, number); }
    @Override int even(int last, int number) { return 0; }
  }

  private static class Mistle extends Fork {
    @Override int weighs(int b, int number) { return super.weighs(b, number) + 1; }
    @Override int even(int last, int number) { return 1 - super.even(last, number); }
  }

  private static final class Split extends Hollow {
    @Override int weighs(int b, int number) { return super.weighs(b, number) + b / 2; }
    @Override int even(int last, int number) { return number % 2 == 1 ? 1 : super.even(last, number); }
  }

  private static final class Twins extends Mistle {
    @Override int weighs(int b, int number) { return 2 * super.weighs(b, number); }
  }

  private static final class Grafted extends Hollow {
    @Override int weighs(int b, int number) { return Math.max(1, super.weighs(b, number)); }
    @Override int even(int last, int number) { return last == 0 ? 1 : super.even(last, number); }
  }

  private static final Fork[] KINDS = {new Fork(), new Hollow(), new Mistle(), new Split(), new Twins(), new Grafted()};

  private static final class Node implements Cloneable {
    int id, kind, number, mind, odds = 50, last;
    boolean cut;
    Node parent;

    Node twin() {
      try {
        return (Node) clone();
      } catch (CloneNotSupportedException e) {
        throw new AssertionError(e);
      }
    }
  }

  /** A tree as it might be: more that are cut, other minds. */
  private final class Might {
    final Set<Integer> cuts = new TreeSet<>();
    final Map<Integer, Integer> minds = new HashMap<>();

    boolean stands(Node n) {
      return n.id == 0 || !n.cut && !cuts.contains(n.id) && stands(n.parent);
    }

    List<Node> standing() {
      List<Node> list = new ArrayList<>();
      for (Node n : nodes) if (stands(n)) list.add(n);
      return list;
    }

    List<Node> kids(Node of) {
      List<Node> list = new ArrayList<>();
      for (Node n : standing()) if (n.parent == of) list.add(n);
      return list;
    }

    boolean isTwig(Node n) { return n.id != 0 && stands(n) && kids(n).isEmpty(); }

    List<Node> twigs() {
      List<Node> list = new ArrayList<>();
      for (Node n : standing()) if (isTwig(n)) list.add(n);
      return list;
    }

    int weighs(Node n) { return stands(n) ? KINDS[n.kind].weighs(kids(n).size(), n.number) : 0; }

    int goes(Node n) {
      if (!stands(n)) return NONE;
      if (isTwig(n)) return minds.getOrDefault(n.id, n.mind);
      int yes = 0, no = 0;
      for (Node kid : kids(n)) {
        if (goes(kid) == 1) yes += weighs(kid);
        else no += weighs(kid);
      }
      if (yes != no) return yes > no ? 1 : 0;
      return KINDS[n.kind].even(n.last, n.number);
    }

    int goesTrunk() { return goes(nodes.get(0)); }
  }

  private List<Node> nodes = new ArrayList<>();
  private int year = 0, rule = 0;
  private final List<Text> texts = new ArrayList<>();
  private final StringBuilder tape = new StringBuilder();
  private final int[] sorts = {-1, -1, -1, -1};
  private final int[][] rows = new int[4][];
  private List<Node> keptNodes = null;
  private int keptYear, keptRule;

  public Twin() {
    nodes.add(new Node());
    texts.add(new Text("costs twigs * 3 + 1 ; falls depth * 5 ; worth 1 ;"));
  }

  private Might now() { return new Might(); }
  private boolean none(int node) { return node < 0 || node >= nodes.size(); }
  private static boolean out(int v, int least, int most) { return v < least || v > most; }

  // ---- the tree

  public int grow(int parent, int kind, int what) {
    if (none(parent) || out(kind, 0, 5) || what < 0 || out(what / 10, 0, 9) || out(what % 10, 0, 1)) return BAD;
    if (!now().stands(nodes.get(parent))) return STATE;
    if (nodes.size() == 12) return FULL;
    Node n = new Node();
    n.id = nodes.size();
    n.parent = nodes.get(parent);
    n.kind = kind;
    n.number = what / 10;
    n.mind = what % 10;
    nodes.add(n);
    return n.id;
  }

  public int set(int what, int of, int v) {
    int was;
    if (what == 4) {
      if (out(v, 0, 99)) return BAD;
      was = year;
      year = v;
      return was;
    }
    if (out(what, 0, 3) || none(of)) return BAD;
    Node n = nodes.get(of);
    switch (what) {
      case 0:
        if (out(v, 0, 9)) return BAD;
        was = n.number;
        n.number = v;
        return was;
      case 1:
        if (out(v, 0, 1)) return BAD;
        was = n.mind;
        n.mind = v;
        return was;
      case 2:
        if (out(v, 0, 100)) return BAD;
        was = n.odds;
        n.odds = v;
        return was;
      default:
        if (out(v, 0, 1)) return BAD;
        was = n.last;
        n.last = v;
        return was;
    }
  }

  public int told(int node, int what) {
    if (none(node) || out(what, 0, 9)) return BAD;
    Node n = nodes.get(node);
    int[] answers = {n.kind, n.number, n.mind, n.odds, n.last, node == 0 ? NONE : n.parent.id, now().stands(n) ? 1 : 0,
      now().isTwig(n) ? 1 : 0, now().goes(n), now().weighs(n)};
    return answers[what];
  }

  public int asks(int node, int what) {
    if (none(node) || out(what, 0, 2)) return BAD;
    if (!now().stands(nodes.get(node))) return STATE;
    return price(nodes.get(node), what);
  }

  private int price(Node n, int what) {
    Might m = now();
    int depth = 0;
    for (Node p = n.parent; p != null; p = p.parent) depth++;
    int twigs = 0;
    for (Node t : m.twigs()) if (t == n || isAbove(n, t)) twigs++;
    Map<String, Integer> names = new HashMap<>();
    names.put("node", n.id);
    names.put("depth", depth);
    names.put("kids", m.kids(n).size());
    names.put("twigs", twigs);
    names.put("last", n.last);
    names.put("year", year);
    int v = texts.get(rule).parts.get(what).value(names);
    int most = what == 1 ? 100 : 99;
    return v < 0 ? 0 : v > most ? most : v;
  }

  private static boolean isAbove(Node a, Node b) {
    for (Node p = b.parent; p != null; p = p.parent) if (p == a) return true;
    return false;
  }

  // ---- texts

  public int feed(int letter) {
    if (out(letter, 0, 255)) return BAD;
    if (tape.length() == 160) return FULL;
    tape.append((char) letter);
    return tape.length();
  }

  public int text() {
    if (texts.size() == 6) return FULL;
    Text t = new Text(tape.toString());
    tape.setLength(0);
    if (t.fault >= 0) return -100 - t.fault;
    texts.add(t);
    return texts.size() - 1;
  }

  public int force(int text) {
    if (out(text, 0, texts.size() - 1)) return BAD;
    int was = rule;
    rule = text;
    return was;
  }

  private interface E {
    int value(Map<String, Integer> names);
  }

  private static final class Fault extends RuntimeException {
    private static final long serialVersionUID = 1L;
    final int place;

    Fault(int place) {
      super(null, null, false, false);
      this.place = place;
    }
  }

  /** A text as its three E's, or its fault. How many are open goes along as an argument. */
  private static final class Text {
    static final List<String> NAMES = Arrays.asList("node", "depth", "kids", "twigs", "last", "year");
    static final List<String> KEYS = Arrays.asList("costs", "falls", "worth", "or", "and", "not");
    final List<String> tokens = new ArrayList<>();
    final List<Integer> places = new ArrayList<>();
    final List<E> parts = new ArrayList<>();
    int at = 0, fault = -1;

    Text(String text) {
      split(text);
      try {
        for (String key : new String[] {"costs", "falls", "worth"}) {
          take(key);
          parts.add(or(0));
          take(";");
        }
        take("");
      } catch (Fault f) {
        fault = f.place;
      }
    }

    /** Tokens are told by their own text; wrong ones by '?', the end by the empty one. */
    void split(String text) {
      int i = 0;
      while (i < text.length()) {
        char c = text.charAt(i);
        if (c == ' ' || c == '\n') {
          i++;
          continue;
        }
        int j = i + 1;
        String token;
        if (c >= 'a' && c <= 'z') {
          while (j < text.length() && text.charAt(j) >= 'a' && text.charAt(j) <= 'z') j++;
          token = text.substring(i, j);
          if (!NAMES.contains(token) && !KEYS.contains(token)) token = "?";
        } else if (c >= '0' && c <= '9') {
          while (j < text.length() && text.charAt(j) >= '0' && text.charAt(j) <= '9') j++;
          token = j - i > 4 ? "?" : text.substring(i, j);
        } else {
          token = "();+-*<=".indexOf(c) >= 0 ? String.valueOf(c) : "?";
        }
        tokens.add(token);
        places.add(i);
        i = j;
      }
      tokens.add("");
      places.add(text.length());
    }

    boolean is(String token) { return tokens.get(at).equals(token); }

    void fail() { throw new Fault(places.get(at)); }

    void take(String token) {
      if (!is(token)) fail();
      if (!token.isEmpty()) at++;
    }

    E or(int open) {
      E one = and(open);
      while (is("or")) {
        at++;
        E a = one, b = and(open);
        one = n -> a.value(n) != 0 | b.value(n) != 0 ? 1 : 0;
      }
      return one;
    }

    E and(int open) {
      E one = not(open);
      while (is("and")) {
        at++;
        E a = one, b = not(open);
        one = n -> a.value(n) != 0 & b.value(n) != 0 ? 1 : 0;
      }
      return one;
    }

    E not(int open) {
      if (is("not")) {
        if (open == 5) fail();
        at++;
        E a = not(open + 1);
        return n -> a.value(n) == 0 ? 1 : 0;
      }
      E a = sum(open);
      if (is("<")) {
        at++;
        E b = sum(open);
        return n -> a.value(n) < b.value(n) ? 1 : 0;
      }
      if (is("=")) {
        at++;
        E b = sum(open);
        return n -> a.value(n) == b.value(n) ? 1 : 0;
      }
      return a;
    }

    E sum(int open) {
      E one = term(open);
      while (is("+") || is("-")) {
        boolean plus = is("+");
        at++;
        E a = one, b = term(open);
        one = plus ? n -> a.value(n) + b.value(n) : n -> a.value(n) - b.value(n);
      }
      return one;
    }

    E term(int open) {
      E one = one(open);
      while (is("*")) {
        at++;
        E a = one, b = one(open);
        one = n -> a.value(n) * b.value(n);
      }
      return one;
    }

    E one(int open) {
      String token = tokens.get(at);
      if (NAMES.contains(token)) {
        at++;
        return n -> n.get(token);
      }
      if (token.matches("[0-9]+")) {
        at++;
        int v = Integer.parseInt(token);
        return n -> v;
      }
      if (is("-")) {
        if (open == 5) fail();
        at++;
        E a = one(open + 1);
        return n -> -a.value(n);
      }
      if (!is("(") || open == 5) fail();
      at++;
      E a = or(open + 1);
      take(")");
      return a;
    }
  }

  // ---- votes, cuts

  public int law() { return now().goesTrunk(); }

  public int pass() {
    Might m = now();
    Map<Node, Integer> went = new HashMap<>();
    for (Node n : m.standing()) went.put(n, m.goes(n));
    for (Map.Entry<Node, Integer> e : went.entrySet()) e.getKey().last = e.getValue();
    if (year < 99) year++;
    return nodes.get(0).last;
  }

  public int cut(int node) {
    if (none(node) || node == 0) return BAD;
    if (!now().stands(nodes.get(node))) return STATE;
    int before = now().standing().size();
    nodes.get(node).cut = true;
    return before - now().standing().size();
  }

  public int graft(int node) {
    if (none(node) || node == 0) return BAD;
    Node n = nodes.get(node);
    if (!n.cut || !now().stands(n.parent)) return STATE;
    int before = now().standing().size();
    n.cut = false;
    return now().standing().size() - before;
  }

  /** All sets of a list, the least as bits first. */
  private static List<List<Node>> sets(List<Node> of) {
    List<List<Node>> all = new ArrayList<>();
    all.add(new ArrayList<>());
    for (Node n : of) {
      int size = all.size();
      for (int i = 0; i < size; i++) {
        List<Node> more = new ArrayList<>(all.get(i));
        more.add(n);
        all.add(more);
      }
    }
    return all;
  }

  private static int bits(List<Node> set) {
    int sum = 0;
    for (Node n : set) sum += 1 << n.id;
    return sum;
  }

  private int best(List<List<Node>> good, int sort, int what, int part) {
    List<Node> best = null;
    for (List<Node> set : good) {
      if (best == null) best = set;
      int a = sort == 0 ? set.size() : price(set, part);
      int b = sort == 0 ? best.size() : price(best, part);
      if (a < b || a == b && bits(set) < bits(best)) best = set;
    }
    if (best == null) return NONE;
    return what == 0 ? bits(best) : what == 1 ? best.size() : price(best, part);
  }

  private int price(List<Node> set, int part) {
    int sum = 0;
    for (Node n : set) sum += price(n, part);
    return sum;
  }

  public int minds(int v, int sort, int what) {
    if (out(v, 0, 1) || out(sort, 0, 1) || out(what, 0, 2)) return BAD;
    List<List<Node>> good = new ArrayList<>();
    for (List<Node> set : sets(now().twigs())) {
      Might m = now();
      for (Node n : set) m.minds.put(n.id, 1 - n.mind);
      if (m.goesTrunk() == v) good.add(set);
    }
    return best(good, sort, what, 2);
  }

  private List<List<Node>> cutSets() {
    List<Node> all = now().standing();
    all.remove(0);
    List<List<Node>> good = new ArrayList<>();
    for (List<Node> set : sets(all)) {
      boolean apart = true;
      for (Node a : set) for (Node b : set) if (isAbove(a, b)) apart = false;
      if (apart) good.add(set);
    }
    return good;
  }

  private Might ifCut(List<Node> set) {
    Might m = now();
    for (Node n : set) m.cuts.add(n.id);
    return m;
  }

  public int cuts(int v, int sort, int what) {
    if (out(v, 0, 1) || out(sort, 0, 1) || out(what, 0, 2)) return BAD;
    List<List<Node>> good = new ArrayList<>();
    for (List<Node> set : cutSets()) if (ifCut(set).goesTrunk() == v) good.add(set);
    return best(good, sort, what, 0);
  }

  private Might ifYes(List<Node> yes) {
    Might m = now();
    for (Node n : now().twigs()) m.minds.put(n.id, yes.contains(n) ? 1 : 0);
    return m;
  }

  public int lopsided(int what) {
    if (out(what, 0, 1)) return BAD;
    TreeSet<Integer> ones = new TreeSet<>();
    for (List<Node> yes : sets(now().twigs())) if (ifYes(yes).goesTrunk() == 1 - what) ones.add(yes.size());
    if (ones.isEmpty()) return NONE;
    return what == 0 ? ones.first() : ones.last();
  }

  public int counts(int node) {
    if (node == NONE) {
      Set<Integer> unlike = new TreeSet<>();
      for (Node n : now().twigs()) unlike.add(countsOf(n));
      return unlike.size() > 1 ? 0 : 1;
    }
    if (none(node) || !now().isTwig(nodes.get(node))) return BAD;
    return countsOf(nodes.get(node));
  }

  private int countsOf(Node n) {
    int count = 0;
    for (List<Node> yes : sets(now().twigs())) {
      Might m = ifYes(yes);
      int law = m.goesTrunk();
      m.minds.put(n.id, yes.contains(n) ? 0 : 1);
      if (m.goesTrunk() != law) count++;
    }
    return count;
  }

  // ---- odds, turns

  private static long part(BigInteger above, BigInteger below, int part) {
    BigInteger divisor = above.gcd(below);
    return (part == 0 ? above : below).divide(divisor).longValueExact();
  }

  private static BigInteger hundreds(int n) { return BigInteger.valueOf(100).pow(n); }

  private BigInteger stormOdds(List<Node> kids, Node spared, int want) {
    BigInteger sum = BigInteger.ZERO;
    for (List<Node> fallen : sets(kids)) {
      BigInteger odds = BigInteger.ONE;
      for (Node kid : kids) {
        int falls = kid == spared ? 0 : price(kid, 1);
        odds = odds.multiply(BigInteger.valueOf(fallen.contains(kid) ? falls : 100 - falls));
      }
      if (ifCut(fallen).goesTrunk() == want) sum = sum.add(odds);
    }
    return sum;
  }

  public long sure(int sort, int part) {
    if (out(sort, 0, 1) || out(part, 0, 1)) return NO;
    if (sort == 0) {
      List<Node> twigs = now().twigs();
      if (twigs.size() > 8) return NO;
      BigInteger sum = BigInteger.ZERO;
      for (List<Node> yes : sets(twigs)) {
        BigInteger odds = BigInteger.ONE;
        for (Node t : twigs) odds = odds.multiply(BigInteger.valueOf(yes.contains(t) ? t.odds : 100 - t.odds));
        if (ifYes(yes).goesTrunk() == 1) sum = sum.add(odds);
      }
      return part(sum, hundreds(twigs.size()), part);
    }
    List<Node> kids = now().kids(nodes.get(0));
    if (kids.size() > 8) return NO;
    return part(stormOdds(kids, null, 1), hundreds(kids.size()), part);
  }

  public int prop() {
    List<Node> kids = now().kids(nodes.get(0));
    if (kids.size() > 8) return STATE;
    Node best = null;
    BigInteger most = null;
    for (Node kid : kids) {
      BigInteger odds = stormOdds(kids, kid, law());
      if (best == null || odds.compareTo(most) > 0) {
        best = kid;
        most = odds;
      }
    }
    return best == null ? NONE : best.id;
  }

  private int played(Set<Integer> cuts, int left, boolean beginner) {
    Might m = now();
    m.cuts.addAll(cuts);
    if (left == 0 || m.twigs().isEmpty()) return m.goesTrunk();
    Set<Integer> ends = new TreeSet<>();
    for (Node t : m.twigs()) ends.add(played(with(cuts, t), left - 1, !beginner));
    return ends.contains(beginner ? 1 : 0) ? (beginner ? 1 : 0) : (beginner ? 0 : 1);
  }

  private static Set<Integer> with(Set<Integer> cuts, Node t) {
    Set<Integer> more = new TreeSet<>(cuts);
    more.add(t.id);
    return more;
  }

  public int turns(int n, int what) {
    if (out(n, 0, 4) || out(what, 0, 1)) return BAD;
    if (now().twigs().size() > 6) return STATE;
    int end = played(new TreeSet<>(), n, true);
    if (what == 0) return end;
    if (n > 0) for (Node t : now().twigs()) if (played(with(new TreeSet<>(), t), n - 1, false) == end) return t.id;
    return NONE;
  }

  public int whoCut(int sheet, int what) {
    if (out(sheet, 0, 3) || out(what, 0, 1)) return BAD;
    int[] row = rows[sheet];
    if (row == null) return -11;
    if (row.length % 2 == 1) return BAD;
    for (int i = 0; i < row.length; i += 2) if (none(row[i]) || out(row[i + 1], 0, 2)) return BAD;
    int many = 0, least = NONE;
    for (List<Node> set : cutSets()) {
      Might m = ifCut(set);
      boolean so = true;
      for (int i = 0; i < row.length; i += 2) {
        int goes = m.goes(nodes.get(row[i]));
        if ((goes == NONE ? 2 : goes) != row[i + 1]) so = false;
      }
      if (so) {
        many++;
        if (least == NONE || bits(set) < least) least = bits(set);
      }
    }
    return what == 0 ? many : least;
  }

  public int drawn(int seed) {
    Might m = now();
    int z = seed;
    for (Node t : now().twigs()) {
      z = z * 1103515245 + 12345;
      m.minds.put(t.id, (z >>> 10) % 100 < t.odds ? 1 : 0);
    }
    return m.goesTrunk();
  }

  public long chance(int seed, int n, int part) {
    if (out(n, 1, 20) || out(part, 0, 1)) return NO;
    int yes = 0;
    for (int k = 0; k < n; k++) yes += drawn(seed + k);
    return part(BigInteger.valueOf(yes), BigInteger.valueOf(n), part);
  }

  private static List<Node> copyOf(List<Node> list) {
    List<Node> copy = new ArrayList<>();
    for (Node n : list) copy.add(n.twin());
    for (Node n : copy) if (n.parent != null) n.parent = copy.get(n.parent.id);
    return copy;
  }

  public int image() {
    keptNodes = copyOf(nodes);
    keptYear = year;
    keptRule = rule;
    return nodes.size();
  }

  public int back() {
    if (keptNodes == null) return STATE;
    nodes = copyOf(keptNodes);
    year = keptYear;
    rule = keptRule;
    return nodes.size();
  }

  public int count(int what) {
    if (out(what, 0, 6)) return BAD;
    return new int[] {nodes.size(), now().standing().size(), now().twigs().size(), texts.size(), tape.length(), rule, year}[what];
  }

  // ---- the host

  public int sheet(int sheet, int sort, int n) {
    if (out(sheet, 0, 3) || out(sort, -1, 2)) return BAD;
    if (sort >= 0 && n > 40) return BAD;
    if (sort >= 0 && n < 0) return -14;
    sorts[sheet] = sort;
    rows[sheet] = sort < 0 ? null : new int[n];
    return 1;
  }

  public int cell(int sheet, int i, int v) {
    if (out(sheet, 0, 3)) return BAD;
    if (rows[sheet] == null) return -11;
    if (out(i, 0, rows[sheet].length - 1)) return -12;
    rows[sheet][i] = sorts[sheet] == 0 ? (byte) v : sorts[sheet] == 1 ? (short) v : v;
    return 1;
  }

  public int copy(int sheet, int i, int other, int j, int n) {
    if (out(sheet, 0, 3) || out(other, 0, 3)) return BAD;
    if (rows[sheet] == null || rows[other] == null) return -11;
    if (sorts[sheet] != sorts[other]) return -13;
    if (i < 0 || j < 0 || n < 0 || (long) i + n > rows[sheet].length || (long) j + n > rows[other].length) return -12;
    int[] moved = Arrays.copyOfRange(rows[sheet], i, i + n);
    for (int k = 0; k < n; k++) rows[other][j + k] = moved[k];
    return n;
  }

  public int nodes(int sheet, int sort, int from, int n) {
    if (out(sheet, 0, 3) || out(sort, 0, 2) || out(n, 0, 12)) return BAD;
    if (rows[sheet] != null && sorts[sheet] != sort) return -13;
    if (rows[sheet] == null) return -11;
    int came = 0;
    for (int k = 0; k < n; k++) {
      int[] three = new int[3];
      for (int m = 0; m < 3; m++) {
        long at = (long) from + 3 * k + m;
        if (at < 0 || at >= rows[sheet].length) return -12;
        three[m] = rows[sheet][(int) at];
      }
      if (grow(three[0], three[1], three[2]) >= 0) came++;
    }
    return came;
  }

  public int taken(int node, int k) {
    if (out(k, 0, 5)) return BAD;
    if (none(node)) return -11;
    return KINDS[k].getClass().isInstance(KINDS[nodes.get(node).kind]) ? nodes.get(node).number : -13;
  }
}
