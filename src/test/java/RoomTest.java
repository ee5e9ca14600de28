import com.sun.management.ThreadMXBean;
import java.lang.management.ManagementFactory;
import java.util.Random;

/** Runs of 512 calls that send as much as they can must stay far below the room of a run. */
public final class RoomTest {
  // The room has 7.3 million fields and elements; four bytes are the least that one takes here.
  private static final long MOST_BYTES = 4_000_000;
  private static final int MOST_CALLS = 512;

  private final Random random;
  private final RoutingDomain domain = new RoutingDomain();
  private int calls = 0;

  private RoomTest(long seed) {
    random = new Random(seed);
  }

  public static void main(String[] args) {
    ThreadMXBean threads = (ThreadMXBean) ManagementFactory.getThreadMXBean();
    long most = 0;
    for (int seed = 0; seed < 40; seed++) {
      long before = threads.getCurrentThreadAllocatedBytes();
      new RoomTest(seed).play(seed % 4);
      most = Math.max(most, threads.getCurrentThreadAllocatedBytes() - before);
    }
    System.out.println("a run took " + most + " bytes at most, of " + MOST_BYTES);
    if (most > MOST_BYTES) {
      System.exit(1);
    }
  }

  private void play(int kind) {
    build();
    while (calls < MOST_CALLS - 30) {
      switch (kind) {
        case 0 -> domain.tick(60);
        case 1 -> bounceLinks(1);
        case 2 -> bounceRouters(1);
        default -> bounceRouters(12);
      }
      calls++;
    }
    for (int i = 0; i < 30; i++) {
      domain.digest();
      domain.trace(random.nextInt(16), random.nextInt(16));
    }
  }

  /** Sixteen border routers of areas 0 and 1, forty links, every network announced. */
  private void build() {
    for (int router = 0; router < 16; router++) {
      domain.addRouter();
      for (int area = 0; area < 2 && router > 0; area++) {
        domain.addLink(random.nextInt(router), router, area, 1 + area, 1);
      }
    }
    for (int link = 30; link < 40; link++) {
      int first = random.nextInt(16);
      domain.addLink(first, (first + 1 + random.nextInt(15)) % 16, link % 2, 3, 2);
    }
    for (int network = 0; network < 16; network++) {
      domain.announce(random.nextInt(16), random.nextInt(2), network, network);
    }
    calls += 16 + 40 + 16;
  }

  private void bounceLinks(int count) {
    for (int i = 0; i < count; i++) {
      int link = random.nextInt(domain.linkCount());
      domain.setLink(link, false);
      domain.setLink(link, true);
    }
    domain.tick(1);
    calls += 2 * count;
  }

  private void bounceRouters(int count) {
    for (int i = 0; i < count; i++) {
      int router = random.nextInt(16);
      domain.setRouter(router, false);
      domain.setRouter(router, true);
    }
    domain.tick(1 + random.nextInt(3));
    calls += 2 * count;
  }
}
