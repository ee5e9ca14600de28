import java.util.ArrayList;
import java.util.List;
import java.util.Random;

/**
 * Domains with all their routers, links and networks, in one area or in several, in which much goes
 * down and comes up at once: RoutingDomain and PlainDomain must answer alike.
 */
public final class FullDomainTest extends Suite {
  private static final int ROUTERS = 16;
  private static final int LINKS = 40;
  private static final int NETWORKS = 16;
  private static final int ROUNDS = 10;

  private final Random random;
  private final int areas;
  private final RoutingDomain fast = new RoutingDomain();
  private final PlainDomain plain = new PlainDomain();
  private final List<String> faults = new ArrayList<>();
  private int mostInFlight = 0;

  private FullDomainTest(int seed, int areas) {
    random = new Random(seed);
    this.areas = areas;
  }

  public static void main(String[] args) {
    int most = 0;
    for (int seed = 0; seed < 8; seed++) {
      FullDomainTest run = new FullDomainTest(seed, 1 + seed % 4);
      run.build();
      for (int round = 0; round < ROUNDS; round++) {
        run.upset(round);
        run.settle(round);
      }
      run.lookAtAll();
      most = Math.max(most, run.mostInFlight);
      count("full domain " + seed, run.faults);
    }
    System.out.println("at most " + most + " messages in flight");
    count("many messages in flight", most > 2048 ? List.of() : List.of("only " + most));
    finish();
  }

  /** A ring in each area, as far as the links go, so that nearly all routers join all areas. */
  private void build() {
    for (int router = 0; router < ROUTERS; router++) {
      same("addRouter");
    }
    same("addRouter");
    for (int link = 0; link < LINKS; link++) {
      int first = (link / areas) % ROUTERS;
      int second = (first + 1 + (link / areas) / ROUTERS * 4) % ROUTERS;
      same("addLink", first, second, link % areas, 1 + random.nextInt(4), 1 + random.nextInt(4));
    }
    same("addLink", 0, 1, 0, 1, 1);
    for (int i = 0; i < 3 * NETWORKS; i++) {
      int router = random.nextInt(ROUTERS);
      same("announce", router, random.nextInt(areas), i % NETWORKS, random.nextInt(9));
    }
  }

  private void upset(int round) {
    for (int i = 0; i < 4; i++) {
      if (round % 3 == 0) {
        bounce("setRouter", random.nextInt(ROUTERS), round % 2 == 0);
      } else {
        bounce("setLink", random.nextInt(LINKS), round % 2 == 0);
      }
    }
    same("setMetric", random.nextInt(LINKS), random.nextInt(2), 1 + random.nextInt(1000));
    same("announce", random.nextInt(ROUTERS), 0, random.nextInt(NETWORKS), random.nextInt(1001));
  }

  private void bounce(String name, int number, boolean isForATick) {
    same(name, number, false);
    if (isForATick) {
      same("tick", 1);
    }
    same(name, number, true);
  }

  private void settle(int round) {
    for (int tick = 0; tick < 6; tick++) {
      same("tick", 1);
      mostInFlight = Math.max(mostInFlight, fast.inFlight());
      same("digest");
    }
    if (round % 5 == 4) {
      same("tick", 60);
    }
  }

  private void lookAtAll() {
    for (int router = 0; router < ROUTERS; router++) {
      int other = random.nextInt(ROUTERS);
      int area = random.nextInt(areas);
      same("changedRoutes", router);
      same("agree", router, other, area);
      same("distance", router, area, other);
      same("firstLinkCount", router, area, other);
      same("summary", router, area, other, router);
      same("trace", router, other);
    }
  }

  private void same(String name, Object... values) {
    String due = Script.call(plain, name, values);
    String answer = Script.call(fast, name, values);
    if (!due.equals(answer) && faults.size() < 5) {
      faults.add(name + " in tick " + plain.clock() + " answered " + answer + ", due is " + due);
    }
  }
}
