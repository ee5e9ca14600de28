import java.util.ArrayList;
import java.util.Arrays;
import java.util.List;
import java.util.Random;
import java.util.stream.LongStream;

/** Compares RoutingDomain with PlainDomain in random runs of up to 512 calls each. */
public final class RandomRunsTest {
  private static final int MOST_CALLS = 512;
  private static final int[] EXTREMES = {
    Integer.MIN_VALUE, Integer.MIN_VALUE + 1, -1, 1 << 16, 1 << 30, Integer.MAX_VALUE
  };
  private static final int[] COUNTS = {2, 3, 4, 6, 9, 16};
  // Just below, at and above the ages at which advertisements are renewed and removed.
  private static final int[] EDGES = {1, 1, 1, 2, 27, 28, 29, 30, 31, 57, 58, 59, 60};

  private final Random random;
  private final RoutingDomain fast = new RoutingDomain();
  private final PlainDomain plain = new PlainDomain();
  private final List<String> calls = new ArrayList<>();
  private final int routersWanted;
  private final int linksWanted;
  private final int areasWanted;
  private final int longestTick;
  private final int mostMetric;
  private final boolean isAtEdges;
  private boolean isEqual = true;

  private RandomRunsTest(long seed) {
    random = new Random(seed);
    routersWanted = COUNTS[random.nextInt(COUNTS.length)];
    linksWanted = Math.min(40, routersWanted - 1 + random.nextInt(25));
    areasWanted = 1 + random.nextInt(4);
    longestTick = random.nextInt(3) == 0 ? 60 : 1 + random.nextInt(8);
    mostMetric = random.nextInt(3) == 0 ? 1000 : 1 + random.nextInt(10);
    isAtEdges = random.nextInt(4) == 0;
  }

  public static void main(String[] args) {
    long first = args.length > 0 ? Long.parseLong(args[0]) : 1;
    long count = args.length > 1 ? Long.parseLong(args[1]) : 250;
    long wrong = LongStream.range(first, first + count).parallel().filter(s -> !isEqual(s)).count();
    System.out.println(count + " random runs from seed " + first + ", " + wrong + " unequal");
    if (wrong != 0) {
      System.exit(1);
    }
  }

  private static boolean isEqual(long seed) {
    RandomRunsTest run = new RandomRunsTest(seed);
    run.play();
    if (!run.isEqual) {
      System.out.println("seed " + seed + ": " + String.join("; ", run.calls));
    }
    return run.isEqual;
  }

  private void play() {
    for (int i = 0; i < routersWanted; i++) {
      same("addRouter");
    }
    for (int i = 0; i < linksWanted / 2 + 1; i++) {
      boolean isInChain = i + 1 < routersWanted;
      addLink(
          isInChain ? i : pick(routersWanted), isInChain ? i + 1 : pick(routersWanted));
    }
    for (int i = 0; i < 6; i++) {
      change(6);
    }
    while (isEqual && calls.size() < MOST_CALLS) {
      step();
    }
  }

  private void step() {
    int dice = random.nextInt(100);
    if (dice < 30) {
      same("tick", someTicks());
      same("digest");
      lookAtAll();
    } else if (dice < 60) {
      change(random.nextInt(10));
    } else if (dice < 70) {
      same("trace", someRouter(), someNetwork());
      same("tracedRouter", random.nextInt(6) - 1);
    } else {
      ask(random.nextInt(20));
    }
  }

  /** A change of the topology; now and then with wrong arguments. */
  private void change(int kind) {
    switch (kind) {
      case 0 -> same("setLink", someLink(), random.nextBoolean());
      case 1 -> same("setLink", someLink(), true);
      case 2 -> same("setMetric", someLink(), odd(random.nextInt(2)), someMetric());
      case 3 -> same("setRouter", someRouter(), random.nextInt(3) != 0);
      case 4 -> bounce();
      case 5, 6 -> same("announce", someRouter(), someArea(), someNetwork(), someCost());
      case 7 -> same("withdraw", someRouter(), someArea(), someNetwork());
      case 8 -> addLink(pick(routersWanted), pick(routersWanted));
      default -> same(random.nextInt(20) == 0 ? "addRouter" : "linkCount");
    }
  }

  private void bounce() {
    boolean isRouter = random.nextBoolean();
    String name = isRouter ? "setRouter" : "setLink";
    int number = isRouter ? someRouter() : someLink();
    same(name, number, false);
    same(name, number, true);
  }

  private void ask(int kind) {
    int router = someRouter();
    int area = someArea();
    int other = someRouter();
    int network = someNetwork();
    int index = random.nextInt(5) - 1;
    switch (kind) {
      case 0 -> same("isUsable", someLink());
      case 1 -> same("isBorder", router);
      case 2 -> same("clock");
      case 3 -> same("inFlight");
      case 4 -> same("lost");
      case 5 -> same("databaseSize", router, area);
      case 6 -> same("sequence", router, area, other);
      case 7 -> same("listedLinks", router, area, other);
      case 8 -> same("summary", router, area, other, network);
      case 9 -> same("agree", router, other, area);
      case 10 -> same("distance", router, area, other);
      case 11 -> same("firstLinkCount", router, area, other);
      case 12 -> same("firstLink", router, area, other, index);
      case 13 -> same("routeKind", router, network);
      case 14 -> same("routeCost", router, network);
      case 15 -> same("isLocal", router, network);
      case 16 -> same("routeLinkCount", router, network);
      case 17 -> same("routeLink", router, network, index);
      case 18 -> same("changedRoutes", router);
      default -> same("tick", odd(1));
    }
  }

  /** These calls change nothing, so they are not written down as a part of the run. */
  private void lookAtAll() {
    int written = calls.size();
    for (int router = 0; router < plain.routerCount() && isEqual; router++) {
      same("changedRoutes", router);
      for (int network = 0; network < 16; network++) {
        same("isLocal", router, network);
        same("routeLink", router, network, 0);
      }
      for (int area = 0; area < 4; area++) {
        int other = random.nextInt(plain.routerCount());
        same("distance", router, area, other);
        same("firstLink", router, area, other, random.nextInt(2));
        same("listedLinks", router, area, other);
        same("summary", router, area, other, random.nextInt(16));
        same("agree", router, other, area);
      }
    }
    if (isEqual) {
      calls.subList(written, calls.size()).clear();
    }
  }

  private void addLink(int first, int second) {
    same("addLink", odd(first), odd(second), someArea(), someMetric(), someMetric());
  }

  private int odd(int usual) {
    int dice = random.nextInt(120);
    if (dice == 0) {
      return EXTREMES[random.nextInt(EXTREMES.length)];
    }
    return dice < 4 ? random.nextInt(70) - 4 : usual;
  }

  private int pick(int bound) {
    return random.nextInt(Math.max(1, bound));
  }

  private int someRouter() {
    return odd(pick(plain.routerCount()));
  }

  private int someLink() {
    return odd(pick(plain.linkCount()));
  }

  private int someArea() {
    return odd(random.nextInt(areasWanted));
  }

  private int someTicks() {
    return isAtEdges ? EDGES[random.nextInt(EDGES.length)] : 1 + random.nextInt(longestTick);
  }

  private int someNetwork() {
    return odd(random.nextInt(4) == 0 ? random.nextInt(16) : random.nextInt(3));
  }

  private int someMetric() {
    return odd(1 + random.nextInt(mostMetric));
  }

  private int someCost() {
    return random.nextInt(60) == 0 ? 1001 : odd(random.nextInt(mostMetric));
  }

  private void same(String name, Object... values) {
    if (!isEqual) {
      return;
    }
    String due = Script.call(plain, name, values);
    String answer = Script.call(fast, name, values);
    String arguments = Arrays.toString(values);
    String call = name + "(" + arguments.substring(1, arguments.length() - 1) + ")";
    calls.add(call + " = " + due);
    if (!due.equals(answer)) {
      isEqual = false;
      calls.add("but was " + answer);
    }
  }
}
