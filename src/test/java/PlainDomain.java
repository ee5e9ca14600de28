import java.util.ArrayList;
import java.util.List;
import java.util.Map;
import java.util.NoSuchElementException;
import java.util.Objects;
import java.util.TreeMap;
import java.util.TreeSet;

/**
 * The document once more, as plainly as Java allows and without a thought for time or room. The
 * random runs compare RoutingDomain with it.
 */
public final class PlainDomain {
  private record Key(int area, boolean isSummary, int originator, int network)
      implements Comparable<Key> {
    @Override
    public int compareTo(Key other) {
      if (area != other.area) {
        return Integer.compare(area, other.area);
      }
      if (isSummary != other.isSummary) {
        return isSummary ? 1 : -1;
      }
      if (originator != other.originator) {
        return Integer.compare(originator, other.originator);
      }
      return Integer.compare(network, other.network);
    }
  }

  private record Listed(int link, int other, int metric) {}

  /** Cost -1 of a summary means unreachable. */
  private record Contents(List<Listed> links, Map<Integer, Integer> networks, int cost) {}

  private record Ad(Key key, int sequence, int birth, Contents contents) {
    boolean isNewerThan(Ad other) {
      return sequence > other.sequence || (sequence == other.sequence && birth > other.birth);
    }
  }

  private record Message(Ad ad, Link link, int receiver) {}

  private record Route(int kind, int cost, TreeSet<Integer> links, boolean isLocal) {}

  private record Candidate(int area, int cost, TreeSet<Integer> links, boolean isOwn) {}

  private static final class Link {
    final int number;
    final int[] ends;
    final int[] metrics;
    final int area;
    boolean isUp = true;
    boolean wasUsable = false;

    Link(int number, int first, int second, int area, int metric0, int metric1) {
      this.number = number;
      this.ends = new int[] {first, second};
      this.metrics = new int[] {metric0, metric1};
      this.area = area;
    }

    int other(int router) {
      return ends[0] == router ? ends[1] : ends[0];
    }

    int metricOf(int router) {
      return ends[0] == router ? metrics[0] : metrics[1];
    }
  }

  private static final class Router {
    boolean isUp = true;
    final TreeSet<Integer> areas = new TreeSet<>();
    final Map<Integer, TreeMap<Integer, Integer>> announced = new TreeMap<>();
    final TreeMap<Key, Ad> database = new TreeMap<>();
    final TreeMap<Key, Integer> known = new TreeMap<>();
    final TreeSet<Key> toRenew = new TreeSet<>();
    final Map<Integer, int[]> distances = new TreeMap<>();
    final Map<Integer, List<TreeSet<Integer>>> firstLinks = new TreeMap<>();
    Route[] routes = new Route[16];
    final List<TreeSet<Integer>> routeAreas = new ArrayList<>();
    int changed = 0;

    void forget() {
      database.clear();
      known.clear();
      toRenew.clear();
      distances.clear();
      firstLinks.clear();
      routes = new Route[16];
      changed = 0;
    }

    boolean isBorder() {
      return areas.contains(0) && areas.size() > 1;
    }
  }

  private static final int FAR = 1 << 28;
  private final List<Router> routers = new ArrayList<>();
  private final List<Link> links = new ArrayList<>();
  private List<Message> sent = new ArrayList<>();
  private List<Integer> traced = new ArrayList<>();
  private int now = 0;
  private int lostCount = 0;

  public int addRouter() {
    if (routers.size() == 16) {
      throw new IllegalStateException();
    }
    routers.add(new Router());
    return routers.size() - 1;
  }

  public int addLink(int first, int second, int area, int metric0, int metric1) {
    router(first);
    router(second);
    if (first == second || area < 0 || area > 3) {
      throw new IllegalArgumentException();
    }
    if (metric0 < 1 || metric0 > 1000 || metric1 < 1 || metric1 > 1000) {
      throw new IllegalArgumentException();
    }
    if (links.size() == 40) {
      throw new IllegalStateException();
    }
    links.add(new Link(links.size(), first, second, area, metric0, metric1));
    router(first).areas.add(area);
    router(second).areas.add(area);
    return links.size() - 1;
  }

  public boolean setLink(int link, boolean isUp) {
    Link l = link(link);
    boolean before = l.isUp;
    l.isUp = isUp;
    forgetUnusable();
    return before;
  }

  public int setMetric(int link, int end, int metric) {
    Link l = link(link);
    Objects.checkIndex(end, 2);
    if (metric < 1 || metric > 1000) {
      throw new IllegalArgumentException();
    }
    int before = l.metrics[end];
    l.metrics[end] = metric;
    return before;
  }

  public boolean setRouter(int router, boolean isUp) {
    Router r = router(router);
    boolean before = r.isUp;
    r.isUp = isUp;
    if (!isUp) {
      r.forget();
    }
    forgetUnusable();
    return before;
  }

  private void forgetUnusable() {
    for (Link l : links) {
      if (!usable(l)) {
        l.wasUsable = false;
      }
    }
  }

  public int announce(int router, int area, int network, int cost) {
    Router r = router(router);
    Objects.checkIndex(network, 16);
    if (cost < 0 || cost > 1000) {
      throw new IllegalArgumentException();
    }
    if (!r.areas.contains(area)) {
      throw new IllegalStateException();
    }
    Integer before = r.announced.computeIfAbsent(area, a -> new TreeMap<>()).put(network, cost);
    return before == null ? -1 : before;
  }

  public int withdraw(int router, int area, int network) {
    Router r = router(router);
    Objects.checkIndex(area, 4);
    Objects.checkIndex(network, 16);
    TreeMap<Integer, Integer> announced = r.announced.get(area);
    if (announced == null || !announced.containsKey(network)) {
      throw new NoSuchElementException();
    }
    return announced.remove(network);
  }

  public int routerCount() {
    return routers.size();
  }

  public int linkCount() {
    return links.size();
  }

  public boolean isUsable(int link) {
    return usable(link(link));
  }

  public boolean isBorder(int router) {
    return router(router).isBorder();
  }

  public int tick(int ticks) {
    if (ticks < 1 || ticks > 60) {
      throw new IllegalArgumentException();
    }
    int delivered = 0;
    for (int i = 0; i < ticks; i++) {
      delivered += tickOnce();
    }
    return delivered;
  }

  private int tickOnce() {
    now++;
    for (Router r : routers) {
      r.database.values().removeIf(ad -> now - ad.birth >= 60);
    }
    List<Message> arriving = sent;
    sent = new ArrayList<>();
    int delivered = 0;
    for (Message message : arriving) {
      if (!usable(message.link) || now - message.ad.birth >= 60) {
        lostCount++;
      } else {
        delivered++;
        receive(message);
      }
    }
    for (int i = 0; i < routers.size(); i++) {
      if (routers.get(i).isUp) {
        act(i);
      }
    }
    for (Link l : links) {
      l.wasUsable = usable(l);
    }
    return delivered;
  }

  private void receive(Message message) {
    Router r = routers.get(message.receiver);
    Ad came = message.ad;
    Ad has = r.database.get(came.key);
    boolean isNew = has == null || came.isNewerThan(has);
    if (came.key.originator == message.receiver) {
      if (isNew) {
        if (came.sequence > r.known.getOrDefault(came.key, 0)) {
          r.known.put(came.key, came.sequence);
        }
        r.toRenew.add(came.key);
      }
    } else if (isNew) {
      r.database.put(came.key, came);
      for (Link l : usableLinks(message.receiver, came.key.area)) {
        if (l != message.link) {
          sent.add(new Message(came, l, l.other(message.receiver)));
        }
      }
    }
    if (has != null && has.isNewerThan(came)) {
      sent.add(new Message(has, message.link, message.link.other(message.receiver)));
    }
  }

  private void act(int number) {
    Router r = routers.get(number);
    for (Link l : links) {
      if (isEnd(l, number) && usable(l) && !l.wasUsable) {
        for (Ad ad : r.database.values()) {
          if (ad.key.area == l.area) {
            sent.add(new Message(ad, l, l.other(number)));
          }
        }
      }
    }
    for (int area : r.areas) {
      Key key = new Key(area, false, number, 0);
      Contents contents = presentContents(number, area);
      Ad has = r.database.get(key);
      if (has == null
          || !has.contents.equals(contents)
          || now - has.birth >= 30
          || r.toRenew.contains(key)) {
        originate(number, key, contents);
      }
    }
    for (int area : r.areas) {
      computeDistances(number, area);
    }
    computeRoutes(number);
    if (r.isBorder()) {
      for (int area : r.areas) {
        for (int network = 0; network < 16; network++) {
          summarize(number, area, network);
        }
      }
    }
  }

  private Contents presentContents(int number, int area) {
    List<Listed> listed = new ArrayList<>();
    for (Link l : usableLinks(number, area)) {
      listed.add(new Listed(l.number, l.other(number), l.metricOf(number)));
    }
    Map<Integer, Integer> announced = routers.get(number).announced.get(area);
    return new Contents(listed, new TreeMap<>(announced == null ? Map.of() : announced), 0);
  }

  private void summarize(int number, int area, int network) {
    Router r = routers.get(number);
    Key key = new Key(area, true, number, network);
    Ad has = r.database.get(key);
    Route route = r.routes[network];
    boolean isWanted = false;
    if (route != null && area != 0) {
      isWanted = route.kind == 2 || !r.routeAreas.get(network).contains(area);
    } else if (route != null) {
      isWanted = route.kind == 1 && !r.routeAreas.get(network).contains(0);
    }
    if (isWanted) {
      if (has == null
          || has.contents.cost != route.cost
          || now - has.birth >= 30
          || r.toRenew.contains(key)) {
        originate(number, key, new Contents(null, null, route.cost));
      }
    } else if ((has != null && has.contents.cost != -1) || r.toRenew.contains(key)) {
      originate(number, key, new Contents(null, null, -1));
    }
  }

  private void originate(int number, Key key, Contents contents) {
    Router r = routers.get(number);
    int sequence = r.known.getOrDefault(key, 0) + 1;
    r.known.put(key, sequence);
    r.toRenew.remove(key);
    Ad ad = new Ad(key, sequence, now, contents);
    r.database.put(key, ad);
    for (Link l : usableLinks(number, key.area)) {
      sent.add(new Message(ad, l, l.other(number)));
    }
  }

  /** All pairs first; a first link is then one whose metric and the rest make up the distance. */
  private void computeDistances(int number, int area) {
    Router r = routers.get(number);
    int n = routers.size();
    int[][] far = new int[n][n];
    List<int[]> own = new ArrayList<>();
    for (int u = 0; u < n; u++) {
      for (int v = 0; v < n; v++) {
        far[u][v] = u == v ? 0 : FAR;
      }
    }
    for (int u = 0; u < n; u++) {
      Ad ad = r.database.get(new Key(area, false, u, 0));
      if (ad == null) {
        continue;
      }
      for (Listed listed : ad.contents.links) {
        if (lists(r, area, listed.other, listed.link, u)) {
          far[u][listed.other] = Math.min(far[u][listed.other], listed.metric);
          if (u == number) {
            own.add(new int[] {listed.link, listed.other, listed.metric});
          }
        }
      }
    }
    for (int k = 0; k < n; k++) {
      for (int u = 0; u < n; u++) {
        for (int v = 0; v < n; v++) {
          far[u][v] = Math.min(far[u][v], far[u][k] + far[k][v]);
        }
      }
    }
    List<TreeSet<Integer>> firsts = new ArrayList<>();
    int[] distances = new int[n];
    for (int v = 0; v < n; v++) {
      distances[v] = far[number][v] >= FAR ? -1 : far[number][v];
      TreeSet<Integer> first = new TreeSet<>();
      for (int[] l : own) {
        if (v != number && distances[v] >= 0 && l[2] + far[l[1]][v] == distances[v]) {
          first.add(l[0]);
        }
      }
      firsts.add(first);
    }
    r.distances.put(area, distances);
    r.firstLinks.put(area, firsts);
  }

  private boolean lists(Router r, int area, int originator, int link, int other) {
    Ad ad = r.database.get(new Key(area, false, originator, 0));
    if (ad == null) {
      return false;
    }
    for (Listed listed : ad.contents.links) {
      if (listed.link == link && listed.other == other) {
        return true;
      }
    }
    return false;
  }

  private void computeRoutes(int number) {
    Router r = routers.get(number);
    Route[] before = r.routes;
    r.routes = new Route[16];
    r.routeAreas.clear();
    r.changed = 0;
    for (int network = 0; network < 16; network++) {
      List<Candidate> inside = new ArrayList<>();
      List<Candidate> between = new ArrayList<>();
      for (int area : r.areas) {
        for (int u = 0; u < routers.size(); u++) {
          collect(number, area, u, network, inside, between);
        }
      }
      TreeSet<Integer> areas = new TreeSet<>();
      r.routes[network] =
          inside.isEmpty() ? best(2, between, new TreeSet<>()) : best(1, inside, areas);
      r.routeAreas.add(areas);
      if (!Objects.equals(before[network], r.routes[network])) {
        r.changed++;
      }
    }
  }

  private void collect(
      int number, int area, int u, int network, List<Candidate> inside, List<Candidate> between) {
    Router r = routers.get(number);
    int distance = r.distances.get(area)[u];
    if (distance == -1) {
      return;
    }
    TreeSet<Integer> first = r.firstLinks.get(area).get(u);
    Ad ad = r.database.get(new Key(area, false, u, 0));
    if (ad != null && ad.contents.networks.containsKey(network)) {
      int cost = distance + ad.contents.networks.get(network);
      inside.add(new Candidate(area, cost, first, u == number));
    }
    Ad summary = r.database.get(new Key(area, true, u, network));
    if (summary != null && summary.contents.cost != -1 && u != number) {
      if (area == 0 || !r.isBorder()) {
        between.add(new Candidate(area, distance + summary.contents.cost, first, false));
      }
    }
  }

  private static Route best(int kind, List<Candidate> candidates, TreeSet<Integer> areas) {
    if (candidates.isEmpty()) {
      return null;
    }
    int cost = FAR;
    for (Candidate candidate : candidates) {
      cost = Math.min(cost, candidate.cost);
    }
    TreeSet<Integer> first = new TreeSet<>();
    boolean isLocal = false;
    for (Candidate candidate : candidates) {
      if (candidate.cost == cost) {
        first.addAll(candidate.links);
        areas.add(candidate.area);
        isLocal |= candidate.isOwn;
      }
    }
    return new Route(kind, cost, first, isLocal);
  }

  public int clock() {
    return now;
  }

  public int inFlight() {
    return sent.size();
  }

  public int lost() {
    return lostCount;
  }

  public int databaseSize(int router, int area) {
    int size = 0;
    for (Key key : attached(router, area).database.keySet()) {
      size += key.area == area ? 1 : 0;
    }
    return size;
  }

  public int sequence(int router, int area, int originator) {
    Ad ad = held(router, area, originator);
    return ad == null ? 0 : ad.sequence;
  }

  public int listedLinks(int router, int area, int originator) {
    Ad ad = held(router, area, originator);
    return ad == null ? -1 : ad.contents.links.size();
  }

  public int summary(int router, int area, int originator, int network) {
    held(router, area, originator);
    Objects.checkIndex(network, 16);
    Ad ad = router(router).database.get(new Key(area, true, originator, network));
    return ad == null ? -2 : ad.contents.cost;
  }

  public boolean agree(int first, int second, int area) {
    Router one = attached(first, area);
    Router two = attached(second, area);
    return one.isUp && two.isUp && marks(one, area).equals(marks(two, area));
  }

  private static List<Object> marks(Router r, int area) {
    List<Object> marks = new ArrayList<>();
    for (Ad ad : r.database.values()) {
      if (ad.key.area == area) {
        marks.add(ad.key);
        marks.add(ad.sequence);
        marks.add(ad.birth);
      }
    }
    return marks;
  }

  public int distance(int router, int area, int target) {
    Router r = attached(router, area);
    router(target);
    int[] distances = r.distances.get(area);
    return distances == null || target >= distances.length ? -1 : distances[target];
  }

  public int firstLinkCount(int router, int area, int target) {
    return first(router, area, target).size();
  }

  public int firstLink(int router, int area, int target, int index) {
    return element(first(router, area, target), index);
  }

  private TreeSet<Integer> first(int router, int area, int target) {
    Router r = attached(router, area);
    router(target);
    List<TreeSet<Integer>> first = r.firstLinks.get(area);
    return first == null || target >= first.size() ? new TreeSet<>() : first.get(target);
  }

  private static int element(TreeSet<Integer> set, int index) {
    if (index < 0 || index >= set.size()) {
      throw new NoSuchElementException();
    }
    return new ArrayList<>(set).get(index);
  }

  public int routeKind(int router, int network) {
    Route route = route(router, network);
    return route == null ? 0 : route.kind;
  }

  public int routeCost(int router, int network) {
    Route route = route(router, network);
    if (route == null) {
      throw new NoSuchElementException();
    }
    return route.cost;
  }

  public boolean isLocal(int router, int network) {
    Route route = route(router, network);
    return route != null && route.isLocal;
  }

  public int routeLinkCount(int router, int network) {
    Route route = route(router, network);
    return route == null ? 0 : route.links.size();
  }

  public int routeLink(int router, int network, int index) {
    Route route = route(router, network);
    return element(route == null ? new TreeSet<>() : route.links, index);
  }

  private Route route(int router, int network) {
    Router r = router(router);
    return r.routes[Objects.checkIndex(network, 16)];
  }

  public int changedRoutes(int router) {
    return router(router).changed;
  }

  public int trace(int router, int network) {
    route(router, network);
    List<Integer> way = new ArrayList<>();
    traced = way;
    int place = router;
    way.add(place);
    while (true) {
      Route route = route(place, network);
      if (route == null) {
        return -1;
      }
      if (route.isLocal) {
        return way.size() - 1;
      }
      Link l = links.get(route.links.first());
      if (!usable(l)) {
        return -2;
      }
      if (way.size() - 1 == 32) {
        return -3;
      }
      place = l.other(place);
      way.add(place);
    }
  }

  public int tracedRouter(int index) {
    if (index < 0 || index >= traced.size()) {
      throw new NoSuchElementException();
    }
    return traced.get(index);
  }

  public long digest() {
    List<Integer> numbers = new ArrayList<>(List.of(clock(), inFlight(), lost()));
    for (Router r : routers) {
      numbers.add(r.isUp ? 1 : 0);
    }
    for (int router = 0; router < routers.size(); router++) {
      for (int area : routers.get(router).areas) {
        numbers.add(databaseSize(router, area));
        for (int originator = 0; originator < routers.size(); originator++) {
          numbers.add(sequence(router, area, originator));
        }
      }
    }
    for (int router = 0; router < routers.size(); router++) {
      for (int network = 0; network < 16; network++) {
        numbers.add(routeKind(router, network));
        if (routeKind(router, network) != 0) {
          numbers.add(routeCost(router, network));
          numbers.add(routeLinkCount(router, network));
        }
      }
    }
    long d = 19;
    for (int x : numbers) {
      d = d * 31 + x;
    }
    return d;
  }

  private Router router(int number) {
    return routers.get(Objects.checkIndex(number, routers.size()));
  }

  private Link link(int number) {
    return links.get(Objects.checkIndex(number, links.size()));
  }

  private Router attached(int router, int area) {
    if (!router(router).areas.contains(area)) {
      throw new IndexOutOfBoundsException();
    }
    return router(router);
  }

  private Ad held(int router, int area, int originator) {
    Router r = attached(router, area);
    router(originator);
    return r.database.get(new Key(area, false, originator, 0));
  }

  private boolean usable(Link l) {
    return l.isUp && routers.get(l.ends[0]).isUp && routers.get(l.ends[1]).isUp;
  }

  private static boolean isEnd(Link l, int router) {
    return l.ends[0] == router || l.ends[1] == router;
  }

  private List<Link> usableLinks(int router, int area) {
    List<Link> found = new ArrayList<>();
    for (Link l : links) {
      if (l.area == area && isEnd(l, router) && usable(l)) {
        found.add(l);
      }
    }
    return found;
  }
}
