import java.util.ArrayList;
import java.util.HashMap;
import java.util.List;
import java.util.Map;
import java.util.function.Supplier;

/**
 * Every kind of call that the document refuses: the exception that is due, the first one if several
 * apply, and that the refused call has changed nothing, neither what can be seen at once nor what
 * comes of it in later ticks.
 */
public final class RefusalTest extends Suite {
  private static final String BOUNDS = "IndexOutOfBoundsException";
  private static final String ARGUMENT = "IllegalArgumentException";
  private static final String STATE = "IllegalStateException";
  private static final String NO_ELEMENT = "NoSuchElementException";

  private static final int LEAST = Integer.MIN_VALUE;
  private static final int MOST = Integer.MAX_VALUE;
  private static final int[] NO_ROUTER = {-1, 5, LEAST, MOST};
  private static final int[] NO_LINK = {-1, 3, LEAST, MOST};
  private static final int[] NO_END = {-1, 2, LEAST, MOST};
  private static final int[] NO_AREA = {-1, 4, LEAST, MOST};
  private static final int[] NO_NETWORK = {-1, 16, LEAST, MOST};
  private static final int[] NO_METRIC = {0, 1001, -1, LEAST, MOST};
  private static final int[] NO_COST = {-1, 1001, LEAST, MOST};
  private static final int[] NO_TICKS = {0, 61, -1, LEAST, MOST};
  private static final int[] NO_INDEX = {-1, 1, 32, 64, LEAST, MOST};

  /** Router 4 has no link. A packet has gone from 3 to 0; a message is on its way. */
  private static final String BUSY =
      THREE_AREAS + "addRouter() = 4; tick(9); trace(3, 9) = 3; announce(0, 1, 9, 6); tick(1);";

  private static final String DOWN = BUSY + "setRouter(1, false) = true;";
  private static final String MANY_ROUTERS = PAIR + times(14, "addRouter()") + "tick(3) = 2;";
  private static final String MANY_LINKS =
      PAIR + "addRouter();" + times(39, "addLink(0, 1, 0, 9, 9)") + "tick(3);";

  private static final Map<String, List<List<String>>> VIEWS = new HashMap<>();

  private RefusalTest() {}

  public static void main(String[] args) {
    topology();
    time();
    databases();
    distances();
    routes();
    packets();
    fullDomains();
    emptyDomains();
    routersThatAreDown();
    finish();
  }

  private static void topology() {
    each("addLink", "0, 3, 0, 1, 1", 0, NO_ROUTER, BOUNDS);
    each("addLink", "0, 3, 0, 1, 1", 1, NO_ROUTER, BOUNDS);
    each("addLink", "0, 3, 0, 1, 1", 2, NO_AREA, ARGUMENT);
    each("addLink", "0, 3, 0, 1, 1", 3, NO_METRIC, ARGUMENT);
    each("addLink", "0, 3, 0, 1, 1", 4, NO_METRIC, ARGUMENT);
    refused(BUSY, "addLink(0, 0, 0, 1, 1)", ARGUMENT);
    refused(BUSY, "addLink(4, 4, 3, 1, 1)", ARGUMENT);
    refused(BUSY, "addLink(5, 5, 0, 1, 1)", BOUNDS);
    refused(BUSY, "addLink(5, 0, 4, 1, 1)", BOUNDS);
    refused(BUSY, "addLink(0, 5, 0, 0, 1)", BOUNDS);
    refused(BUSY, "addLink(0, -1, -1, 1, 1001)", BOUNDS);
    each("setLink", "0, false", 0, NO_LINK, BOUNDS);
    each("setLink", "0, true", 0, NO_LINK, BOUNDS);
    each("setMetric", "1, 0, 7", 0, NO_LINK, BOUNDS);
    each("setMetric", "1, 0, 7", 1, NO_END, BOUNDS);
    each("setMetric", "1, 0, 7", 2, NO_METRIC, ARGUMENT);
    each("setMetric", "1, 1, 7", 2, NO_METRIC, ARGUMENT);
    each("setMetric", "1, 0, 0", 0, NO_LINK, BOUNDS);
    each("setMetric", "1, 1, 1001", 1, NO_END, BOUNDS);
    each("setRouter", "1, false", 0, NO_ROUTER, BOUNDS);
    each("setRouter", "1, true", 0, NO_ROUTER, BOUNDS);
    each("isUsable", "0", 0, NO_LINK, BOUNDS);
    each("isBorder", "0", 0, NO_ROUTER, BOUNDS);
    announcements();
  }

  private static void announcements() {
    each("announce", "0, 1, 9, 4", 0, NO_ROUTER, BOUNDS);
    each("announce", "0, 1, 9, 4", 1, NO_AREA, STATE);
    each("announce", "0, 1, 9, 4", 2, NO_NETWORK, BOUNDS);
    each("announce", "0, 1, 9, 4", 3, NO_COST, ARGUMENT);
    each("announce", "4, 0, 9, 4", 1, new int[] {0, 1, 2, 3}, STATE);
    each("announce", "1, 0, 9, 4", 1, new int[] {2, 3}, STATE);
    each("announce", "0, 1, 9, 1001", 0, NO_ROUTER, BOUNDS);
    each("announce", "0, 4, 9, -1", 0, NO_ROUTER, BOUNDS);
    each("announce", "0, 0, 9, 4", 0, NO_ROUTER, BOUNDS);
    each("announce", "0, 1, 9, 1001", 2, NO_NETWORK, BOUNDS);
    each("announce", "0, 0, 9, 4", 2, NO_NETWORK, BOUNDS);
    each("announce", "0, 0, 9, 4", 3, NO_COST, ARGUMENT);
    each("announce", "0, 1, 9, 1001", 1, NO_AREA, ARGUMENT);
    each("withdraw", "0, 1, 9", 0, NO_ROUTER, BOUNDS);
    each("withdraw", "0, 1, 9", 1, NO_AREA, BOUNDS);
    each("withdraw", "0, 1, 9", 2, NO_NETWORK, BOUNDS);
    each("withdraw", "0, 1, 9", 1, new int[] {0, 2, 3}, NO_ELEMENT);
    each("withdraw", "0, 1, 9", 2, new int[] {0, 8, 10, 15}, NO_ELEMENT);
    each("withdraw", "0, 1, 9", 0, new int[] {1, 4}, NO_ELEMENT);
  }

  private static void time() {
    each("tick", "1", 0, NO_TICKS, ARGUMENT);
  }

  private static void databases() {
    each("databaseSize", "1, 0", 0, NO_ROUTER, BOUNDS);
    each("databaseSize", "1, 0", 1, NO_AREA, BOUNDS);
    each("databaseSize", "1, 0", 1, new int[] {2, 3}, BOUNDS);
    each("databaseSize", "4, 0", 1, new int[] {0, 1, 2, 3}, BOUNDS);
    for (String name : List.of("sequence", "listedLinks")) {
      each(name, "1, 0, 2", 0, NO_ROUTER, BOUNDS);
      each(name, "1, 0, 2", 1, NO_AREA, BOUNDS);
      each(name, "1, 0, 2", 2, NO_ROUTER, BOUNDS);
      each(name, "1, 0, 2", 1, new int[] {2, 3}, BOUNDS);
      refused(BUSY, name + "(4, 0, 4)", BOUNDS);
    }
    each("summary", "2, 0, 1, 9", 0, NO_ROUTER, BOUNDS);
    each("summary", "2, 0, 1, 9", 1, NO_AREA, BOUNDS);
    each("summary", "2, 0, 1, 9", 2, NO_ROUTER, BOUNDS);
    each("summary", "2, 0, 1, 9", 3, NO_NETWORK, BOUNDS);
    each("summary", "2, 0, 1, 9", 1, new int[] {1, 3}, BOUNDS);
    each("agree", "1, 2, 0", 0, NO_ROUTER, BOUNDS);
    each("agree", "1, 2, 0", 1, NO_ROUTER, BOUNDS);
    each("agree", "1, 2, 0", 2, NO_AREA, BOUNDS);
    each("agree", "1, 2, 0", 2, new int[] {1, 2, 3}, BOUNDS);
    each("agree", "4, 4, 0", 2, new int[] {0, 1, 2, 3}, BOUNDS);
  }

  private static void distances() {
    for (String name : List.of("distance", "firstLinkCount")) {
      each(name, "1, 0, 2", 0, NO_ROUTER, BOUNDS);
      each(name, "1, 0, 2", 1, NO_AREA, BOUNDS);
      each(name, "1, 0, 2", 2, NO_ROUTER, BOUNDS);
      each(name, "1, 0, 2", 1, new int[] {2, 3}, BOUNDS);
      refused(BUSY, name + "(4, 0, 4)", BOUNDS);
    }
    for (String index : List.of("0", "-1", "1")) {
      each("firstLink", "1, 0, 2, " + index, 0, NO_ROUTER, BOUNDS);
      each("firstLink", "1, 0, 2, " + index, 1, NO_AREA, BOUNDS);
      each("firstLink", "1, 0, 2, " + index, 2, NO_ROUTER, BOUNDS);
      each("firstLink", "1, 0, 2, " + index, 1, new int[] {2, 3}, BOUNDS);
    }
    each("firstLink", "1, 0, 2, 0", 3, NO_INDEX, NO_ELEMENT);
    each("firstLink", "1, 0, 1, 0", 3, new int[] {0, -1, 1}, NO_ELEMENT);
    each("firstLink", "1, 0, 3, 0", 3, new int[] {0, -1, 1}, NO_ELEMENT);
  }

  private static void routes() {
    for (String name : List.of("routeKind", "routeCost", "isLocal", "routeLinkCount", "trace")) {
      each(name, "2, 9", 0, NO_ROUTER, BOUNDS);
      each(name, "2, 9", 1, NO_NETWORK, BOUNDS);
    }
    refused(BUSY, "routeCost(2, 8)", NO_ELEMENT);
    refused(BUSY, "routeCost(4, 9)", NO_ELEMENT);
    for (String index : List.of("0", "-1", "1")) {
      each("routeLink", "2, 9, " + index, 0, NO_ROUTER, BOUNDS);
      each("routeLink", "2, 9, " + index, 1, NO_NETWORK, BOUNDS);
    }
    each("routeLink", "2, 9, 0", 2, NO_INDEX, NO_ELEMENT);
    each("routeLink", "0, 9, 0", 2, new int[] {0, -1, 1}, NO_ELEMENT);
    each("routeLink", "2, 8, 0", 2, new int[] {0, -1, 1}, NO_ELEMENT);
    each("changedRoutes", "0", 0, NO_ROUTER, BOUNDS);
  }

  private static void packets() {
    each("tracedRouter", "0", 0, new int[] {-1, 4, 5, 32, 33, 34, 64, LEAST, MOST}, NO_ELEMENT);
  }

  private static void fullDomains() {
    refused(MANY_ROUTERS, "addRouter()", STATE);
    refused(MANY_ROUTERS, "setRouter(16, false)", BOUNDS);
    refused(MANY_ROUTERS, "addLink(0, 16, 0, 1, 1)", BOUNDS);
    refused(MANY_LINKS, "addLink(0, 1, 0, 1, 1)", STATE);
    refused(MANY_LINKS, "addLink(1, 2, 3, 1000, 1000)", STATE);
    refused(MANY_LINKS, "addLink(0, 0, 0, 1, 1)", ARGUMENT);
    refused(MANY_LINKS, "addLink(0, 1, 4, 1, 1)", ARGUMENT);
    refused(MANY_LINKS, "addLink(0, 1, 0, 1001, 1)", ARGUMENT);
    refused(MANY_LINKS, "addLink(0, 1, 0, 1, 0)", ARGUMENT);
    refused(MANY_LINKS, "addLink(3, 1, 0, 1, 1)", BOUNDS);
    refused(MANY_LINKS, "addLink(0, 3, 9, 0, 0)", BOUNDS);
    refused(MANY_LINKS, "setLink(40, false)", BOUNDS);
    refused(MANY_LINKS, "firstLink(0, 0, 1, 39)", NO_ELEMENT);
  }

  private static void emptyDomains() {
    for (String call :
        List.of(
            "addLink(0, 0, 9, 0, 0)", "addLink(0, 1, 0, 1, 1)", "setLink(0, true)",
            "setMetric(0, 0, 0)", "setRouter(0, true)", "announce(0, 0, 0, -1)",
            "withdraw(0, 0, 0)", "isUsable(0)", "isBorder(0)", "databaseSize(0, 0)",
            "sequence(0, 0, 0)", "listedLinks(0, 0, 0)", "summary(0, 0, 0, 0)", "agree(0, 0, 0)",
            "distance(0, 0, 0)", "firstLinkCount(0, 0, 0)", "firstLink(0, 0, 0, 0)",
            "routeKind(0, 0)", "routeCost(0, 0)", "isLocal(0, 0)", "routeLinkCount(0, 0)",
            "routeLink(0, 0, 0)", "changedRoutes(0)", "trace(0, 0)")) {
      refused("", call, BOUNDS);
    }
    refused("", "tick(0)", ARGUMENT);
    refused("", "tracedRouter(0)", NO_ELEMENT);
  }

  private static void routersThatAreDown() {
    refused(DOWN, "routeCost(1, 9)", NO_ELEMENT);
    refused(DOWN, "routeLink(1, 9, 0)", NO_ELEMENT);
    refused(DOWN, "firstLink(1, 0, 2, 0)", NO_ELEMENT);
    refused(DOWN, "databaseSize(1, 2)", BOUNDS);
    refused(DOWN, "sequence(1, 0, 5)", BOUNDS);
    refused(DOWN, "summary(1, 0, 1, 16)", BOUNDS);
    refused(DOWN, "agree(1, 0, 0)", BOUNDS);
    refused(DOWN, "distance(1, 0, 5)", BOUNDS);
    refused(DOWN, "announce(1, 2, 0, 0)", STATE);
    refused(DOWN, "addLink(1, 1, 0, 1, 1)", ARGUMENT);
  }

  /** The call on BUSY with each of the values in the place of one of its arguments. */
  private static void each(String name, String good, int place, int[] values, String exception) {
    for (int value : values) {
      String[] arguments = good.split(", ");
      arguments[place] = String.valueOf(value);
      refused(BUSY, name + "(" + String.join(", ", arguments) + ")", exception);
    }
  }

  private static void refused(String start, String call, String exception) {
    refused(RoutingDomain::new, start, call, exception);
    refused(PlainDomain::new, start, call, exception);
  }

  private static void refused(
      Supplier<Object> maker, String start, String call, String exception) {
    Object probe = maker.get();
    String script = start + call + " = throws " + exception + ";";
    List<String> faults = new ArrayList<>(Script.faults(probe, script));
    List<List<String>> due =
        VIEWS.computeIfAbsent(probe.getClass().getName() + start, key -> views(maker, start));
    List<List<String>> present = views(maker, start + call + ";");
    for (int i = 0; i < due.size(); i++) {
      if (!due.get(i).equals(present.get(i))) {
        faults.add("changed view " + i);
      }
    }
    count(call + " after " + start + " (" + probe.getClass().getName() + ")", faults);
  }

  /** What can be seen at once, after a tick, and after all advertisements were renewed. */
  private static List<List<String>> views(Supplier<Object> maker, String script) {
    List<List<String>> views = new ArrayList<>();
    for (String later : List.of("", "tick(1);", "tick(35);")) {
      Object domain = maker.get();
      Script.faults(domain, script + later);
      views.add(view(domain));
    }
    return views;
  }

  /** All answers about the first five routers; few enough calls for one object. */
  private static List<String> view(Object domain) {
    List<String> view = new ArrayList<>();
    int routers = Math.min(5, Integer.parseInt(Script.call(domain, "routerCount")));
    int links = Integer.parseInt(Script.call(domain, "linkCount"));
    for (String name : List.of("routerCount", "clock", "inFlight", "lost", "digest")) {
      view.add(Script.call(domain, name));
    }
    for (int link = 0; link < links; link++) {
      view.add(Script.call(domain, "isUsable", link));
    }
    for (int index = 0; index < 5; index++) {
      view.add(Script.call(domain, "tracedRouter", index));
    }
    for (int router = 0; router < routers; router++) {
      view.add(Script.call(domain, "isBorder", router));
      view.add(Script.call(domain, "changedRoutes", router));
      for (int network = 8; network < 10; network++) {
        view.add(Script.call(domain, "routeKind", router, network));
        view.add(Script.call(domain, "routeCost", router, network));
        view.add(Script.call(domain, "isLocal", router, network));
        view.add(Script.call(domain, "routeLink", router, network, 0));
      }
      for (int area = 0; area < 4; area++) {
        viewArea(domain, router, area, routers, view);
      }
    }
    return view;
  }

  private static void viewArea(
      Object domain, int router, int area, int routers, List<String> view) {
    String size = Script.call(domain, "databaseSize", router, area);
    view.add(size);
    if (size.startsWith("throws")) {
      return;
    }
    for (int other = 0; other < routers; other++) {
      view.add(Script.call(domain, "sequence", router, area, other));
      view.add(Script.call(domain, "listedLinks", router, area, other));
      view.add(Script.call(domain, "summary", router, area, other, 9));
      view.add(Script.call(domain, "agree", router, other, area));
      view.add(Script.call(domain, "distance", router, area, other));
      view.add(Script.call(domain, "firstLinkCount", router, area, other));
    }
  }
}
