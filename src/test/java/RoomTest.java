import java.lang.management.ManagementFactory;

/** Calls make no objects: what this thread was given from the heap over many calls stays far below one object a call. */
public final class RoomTest {
  private static final com.sun.management.ThreadMXBean THREADS =
      (com.sun.management.ThreadMXBean) ManagementFactory.getThreadMXBean();
  private static final byte[] TEXT = "costs not -(node+kids)<3 or twigs=1;falls depth*5;worth 1;".getBytes();
  private static final int ROUNDS = 40;

  private static long sum = 0;

  public static void main(String[] args) {
    VotesOnTree broad = new VotesOnTree();
    VotesOnTree deep = new VotesOnTree();
    for (int i = 0; i < 11; i++) {
      broad.grow(0, i % 6, i % 2);
      deep.grow(i < 6 ? 0 : i - 5, i % 6, i % 2);
    }
    round(broad);
    round(deep);
    long before = THREADS.getCurrentThreadAllocatedBytes();
    for (int i = 0; i < ROUNDS; i++) {
      round(broad);
      round(deep);
    }
    long calls = THREADS.getCurrentThreadAllocatedBytes() - before;
    before = THREADS.getCurrentThreadAllocatedBytes();
    sum += new VotesOnTree().law();
    long one = THREADS.getCurrentThreadAllocatedBytes() - before;
    System.out.println(calls + " bytes for " + 2 * ROUNDS + " rounds of calls, " + one + " for an object (" + sum + ")");
    if (calls > 16 * ROUNDS || one > 20000) {
      System.out.println("calls, or a new object, take more room than is due");
      System.exit(1);
    }
  }

  private static void round(VotesOnTree x) {
    for (int i = 0; i < TEXT.length; i++) {
      sum += x.feed(TEXT[i]);
    }
    sum += x.text() + x.force(0) + x.law() + x.pass() + x.grow(0, 0, 0) + x.set(2, 1, 7);
    for (int what = 0; what < 10; what++) {
      sum += x.told(3, what) + x.count(what) + x.asks(1, what);
    }
    for (int v = 0; v < 2; v++) {
      sum += x.minds(v, 1, 2) + x.cuts(v, 1, 2) + x.lopsided(v) + x.sure(v, 0) + x.chance(v, 20, 0) + x.turns(4, v);
    }
    sum += x.counts(-1) + x.counts(11) + x.prop() + x.drawn(7) + x.cut(5) + x.graft(5) + x.image() + x.back();
    sum += x.sheet(0, 0, 40) + x.cell(0, 1, 2) + x.copy(0, 0, 0, 1, 39) + x.whoCut(0, 0) + x.nodes(0, 0, 0, 12) + x.taken(3, 1);
    sum += x.sheet(1, 0, 0) + x.whoCut(1, 0) + x.whoCut(1, 1);
  }
}
