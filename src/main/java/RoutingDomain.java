import java.util.Arrays;
import java.util.NoSuchElementException;

/**
 * A simulator of a link-state routing domain with areas, in the manner of OSPF.
 *
 * <p>Three numbers run through the file. A port is an end of a link: link * 2 + end, so that
 * port ^ 1 is the other end and port >> 1 the link. A key numbers what an advertisement is about,
 * area by area in the order of the document. A version is an advertisement: key * SLOTS + (birth
 * mod SLOTS).
 */
public final class RoutingDomain {
  private static final int ROUTERS = 16;
  private static final int LINKS = 40;
  private static final int PORTS = LINKS * 2;
  private static final int AREAS = 4;
  private static final int NETWORKS = 16;
  private static final int MOST_METRIC = 1000;
  private static final int MOST_COST = 1000;
  private static final int MOST_TICKS = 60;
  private static final int MOST_HOPS = 32;

  private static final int LIFETIME = 60;
  private static final int REFRESH_AGE = 30;
  // A key gets one version a tick at most and each is gone at the age of 60, so with 64 slots no
  // two living versions of a key meet in one slot, and a slot tells the age.
  private static final int SLOT_BITS = 6;
  private static final int SLOTS = 1 << SLOT_BITS;
  private static final int SLOT_MASK = SLOTS - 1;
  private static final int KEYS_OF_AREA = ROUTERS + ROUTERS * NETWORKS;
  private static final int KEYS = AREAS * KEYS_OF_AREA;

  private static final int PORT_BITS = 7;
  private static final int PORT_MASK = (1 << PORT_BITS) - 1;
  private static final int FIRST_MAIL_ROOM = 1024;
  private static final int MOST_MAIL_ROOM = 1 << 20;

  private static final int NONE = -1;
  private static final int UNREACHABLE = -1;
  private static final int NO_ROUTE = 0;
  private static final int INTRA_AREA = 1;
  private static final int INTER_AREA = 2;

  private final Topology topology;
  private final Advertisements advertisements;
  private final Databases databases;
  private final Paths paths;
  private final Routes routes;
  private final Simulator simulator;
  private final Packet packet;

  public RoutingDomain() {
    topology = new Topology();
    advertisements = new Advertisements(topology);
    databases = new Databases();
    paths = new Paths(topology, advertisements, databases);
    routes = new Routes(topology, advertisements, databases, paths);
    simulator = new Simulator(topology, advertisements, databases, paths, routes);
    packet = new Packet(topology, routes);
  }

  // ---- topology

  public int addRouter() throws IllegalStateException {
    if (topology.routerCount >= ROUTERS) {
      throw new IllegalStateException("there are 16 routers");
    }
    return topology.createRouter();
  }

  public int addLink(int first, int second, int area, int metric0, int metric1)
      throws IndexOutOfBoundsException, IllegalArgumentException, IllegalStateException {
    requireRouter(first);
    requireRouter(second);
    if (first == second) {
      throw new IllegalArgumentException("a link connects two different routers");
    }
    if (!isArea(area)) {
      throw new IllegalArgumentException("an area is 0 to 3");
    }
    requireMetric(metric0);
    requireMetric(metric1);
    if (topology.linkCount >= LINKS) {
      throw new IllegalStateException("there are 40 links");
    }
    simulator.wakeAll();
    return topology.createLink(first, second, area, metric0, metric1);
  }

  public boolean setLink(int link, boolean isUp) throws IndexOutOfBoundsException {
    requireLink(link);
    simulator.wakeAll();
    return topology.switchLink(link, isUp);
  }

  public int setMetric(int link, int end, int metric)
      throws IndexOutOfBoundsException, IllegalArgumentException {
    requireLink(link);
    if (end != 0 && end != 1) {
      throw new IndexOutOfBoundsException("an end is 0 or 1");
    }
    requireMetric(metric);
    int port = link * 2 + end;
    int former = topology.metricOfPort[port];
    topology.metricOfPort[port] = metric;
    simulator.wakeAll();
    return former;
  }

  public boolean setRouter(int router, boolean isUp) throws IndexOutOfBoundsException {
    requireRouter(router);
    simulator.wakeAll();
    boolean wasUp = topology.switchRouter(router, isUp);
    if (wasUp && !isUp) {
      databases.forget(router);
      paths.forget(router);
      routes.forget(router);
    }
    return wasUp;
  }

  public int announce(int router, int area, int network, int cost)
      throws IndexOutOfBoundsException, IllegalArgumentException, IllegalStateException {
    requireRouter(router);
    requireNetwork(network);
    if (cost < 0 || cost > MOST_COST) {
      throw new IllegalArgumentException("a cost is 0 to 1000");
    }
    if (!topology.touches(router, area)) {
      throw new IllegalStateException("the router is not attached to the area");
    }
    int at = topology.announcementAt(router, area, network);
    int former = topology.announced[at];
    topology.announced[at] = cost;
    simulator.wakeAll();
    return former;
  }

  public int withdraw(int router, int area, int network)
      throws IndexOutOfBoundsException, NoSuchElementException {
    requireRouter(router);
    if (!isArea(area)) {
      throw new IndexOutOfBoundsException("an area is 0 to 3");
    }
    requireNetwork(network);
    int at = topology.announcementAt(router, area, network);
    int former = topology.announced[at];
    if (former == NONE) {
      throw new NoSuchElementException("the router does not announce the network");
    }
    topology.announced[at] = NONE;
    simulator.wakeAll();
    return former;
  }

  public int routerCount() {
    return topology.routerCount;
  }

  public int linkCount() {
    return topology.linkCount;
  }

  public boolean isUsable(int link) throws IndexOutOfBoundsException {
    requireLink(link);
    return topology.canCarry(link);
  }

  public boolean isBorder(int router) throws IndexOutOfBoundsException {
    requireRouter(router);
    return topology.joinsAreas(router);
  }

  // ---- time

  public int tick(int ticks) throws IllegalArgumentException {
    if (ticks < 1 || ticks > MOST_TICKS) {
      throw new IllegalArgumentException("1 to 60 ticks");
    }
    int delivered = 0;
    for (int i = 0; i < ticks; i++) {
      advertisements.now++;
      simulator.removeExpired();
      delivered += simulator.deliverMail();
      simulator.letRoutersAct();
      topology.rememberUsableLinks();
    }
    return delivered;
  }

  public int clock() {
    return advertisements.now;
  }

  public int inFlight() {
    return simulator.sent.count;
  }

  public int lost() {
    return simulator.lostCount;
  }

  // ---- databases

  public int databaseSize(int router, int area) throws IndexOutOfBoundsException {
    requireAttached(router, area);
    return databases.sizeOf(router, area);
  }

  public int sequence(int router, int area, int originator) throws IndexOutOfBoundsException {
    requireAttached(router, area);
    requireRouter(originator);
    return sequenceHeld(router, area, originator);
  }

  public int listedLinks(int router, int area, int originator) throws IndexOutOfBoundsException {
    requireAttached(router, area);
    requireRouter(originator);
    int version = databases.versionHeld(router, routerKey(area, originator));
    return version == NONE ? -1 : advertisements.countListed(version, originator, area);
  }

  public int summary(int router, int area, int originator, int network)
      throws IndexOutOfBoundsException {
    requireAttached(router, area);
    requireRouter(originator);
    requireNetwork(network);
    int version = databases.versionHeld(router, summaryKey(area, originator, network));
    return version == NONE ? -2 : advertisements.summaryCosts[version];
  }

  public boolean agree(int first, int second, int area) throws IndexOutOfBoundsException {
    requireAttached(first, area);
    requireAttached(second, area);
    return topology.isRouterUp[first]
        && topology.isRouterUp[second]
        && databases.areEqual(first, second, area);
  }

  // ---- distances and routes

  public int distance(int router, int area, int target) throws IndexOutOfBoundsException {
    requireAttached(router, area);
    requireRouter(target);
    return paths.distances[rowOfPaths(router, area) + target];
  }

  public int firstLinkCount(int router, int area, int target) throws IndexOutOfBoundsException {
    requireAttached(router, area);
    requireRouter(target);
    return Long.bitCount(paths.firstLinks[rowOfPaths(router, area) + target]);
  }

  public int firstLink(int router, int area, int target, int index)
      throws IndexOutOfBoundsException, NoSuchElementException {
    requireAttached(router, area);
    requireRouter(target);
    int link = linkAt(paths.firstLinks[rowOfPaths(router, area) + target], index);
    if (link == NONE) {
      throw new NoSuchElementException("there is no such first link");
    }
    return link;
  }

  public int routeKind(int router, int network) throws IndexOutOfBoundsException {
    requireRouter(router);
    requireNetwork(network);
    return routes.kinds[routeAt(router, network)];
  }

  public int routeCost(int router, int network)
      throws IndexOutOfBoundsException, NoSuchElementException {
    requireRouter(router);
    requireNetwork(network);
    int at = routeAt(router, network);
    if (routes.kinds[at] == NO_ROUTE) {
      throw new NoSuchElementException("there is no route");
    }
    return routes.costs[at];
  }

  public boolean isLocal(int router, int network) throws IndexOutOfBoundsException {
    requireRouter(router);
    requireNetwork(network);
    return routes.locals[routeAt(router, network)];
  }

  public int routeLinkCount(int router, int network) throws IndexOutOfBoundsException {
    requireRouter(router);
    requireNetwork(network);
    return Long.bitCount(routes.links[routeAt(router, network)]);
  }

  public int routeLink(int router, int network, int index)
      throws IndexOutOfBoundsException, NoSuchElementException {
    requireRouter(router);
    requireNetwork(network);
    int link = linkAt(routes.links[routeAt(router, network)], index);
    if (link == NONE) {
      throw new NoSuchElementException("the route has no such link");
    }
    return link;
  }

  public int changedRoutes(int router) throws IndexOutOfBoundsException {
    requireRouter(router);
    return routes.changes[router];
  }

  // ---- packets

  public int trace(int router, int network) throws IndexOutOfBoundsException {
    requireRouter(router);
    requireNetwork(network);
    return packet.follow(router, network);
  }

  public int tracedRouter(int index) throws NoSuchElementException {
    if (index < 0 || index >= packet.count) {
      throw new NoSuchElementException("the packet came to no such router");
    }
    return packet.visited[index];
  }

  public long digest() {
    long d = 19;
    d = d * 31 + advertisements.now;
    d = d * 31 + simulator.sent.count;
    d = d * 31 + simulator.lostCount;
    for (int router = 0; router < topology.routerCount; router++) {
      d = d * 31 + (topology.isRouterUp[router] ? 1 : 0);
    }
    for (int router = 0; router < topology.routerCount; router++) {
      for (int area = 0; area < AREAS; area++) {
        if (topology.touches(router, area)) {
          d = digestOfDatabase(d, router, area);
        }
      }
    }
    for (int router = 0; router < topology.routerCount; router++) {
      d = digestOfRoutes(d, router);
    }
    return d;
  }

  private long digestOfDatabase(long start, int router, int area) {
    long d = start * 31 + databases.sizeOf(router, area);
    for (int originator = 0; originator < topology.routerCount; originator++) {
      d = d * 31 + sequenceHeld(router, area, originator);
    }
    return d;
  }

  private long digestOfRoutes(long start, int router) {
    long d = start;
    for (int network = 0; network < NETWORKS; network++) {
      int at = routeAt(router, network);
      d = d * 31 + routes.kinds[at];
      if (routes.kinds[at] != NO_ROUTE) {
        d = d * 31 + routes.costs[at];
        d = d * 31 + Long.bitCount(routes.links[at]);
      }
    }
    return d;
  }

  private int sequenceHeld(int router, int area, int originator) {
    int version = databases.versionHeld(router, routerKey(area, originator));
    return version == NONE ? 0 : advertisements.sequences[version];
  }

  private void requireRouter(int router) {
    if (router < 0 || router >= topology.routerCount) {
      throw new IndexOutOfBoundsException("there is no such router");
    }
  }

  private void requireLink(int link) {
    if (link < 0 || link >= topology.linkCount) {
      throw new IndexOutOfBoundsException("there is no such link");
    }
  }

  private void requireAttached(int router, int area) {
    requireRouter(router);
    if (!topology.touches(router, area)) {
      throw new IndexOutOfBoundsException("the router is not attached to the area");
    }
  }

  private static void requireNetwork(int network) {
    if (network < 0 || network >= NETWORKS) {
      throw new IndexOutOfBoundsException("there is no such network");
    }
  }

  private static void requireMetric(int metric) {
    if (metric < 1 || metric > MOST_METRIC) {
      throw new IllegalArgumentException("a metric is 1 to 1000");
    }
  }

  private static boolean isArea(int area) {
    return area >= 0 && area < AREAS;
  }

  private static int routerKey(int area, int originator) {
    return area * KEYS_OF_AREA + originator;
  }

  private static int summaryKey(int area, int originator, int network) {
    return area * KEYS_OF_AREA + ROUTERS + originator * NETWORKS + network;
  }

  private static int rowOfPaths(int router, int area) {
    return (router * AREAS + area) * ROUTERS;
  }

  private static int routeAt(int router, int network) {
    return router * NETWORKS + network;
  }

  /** Answers NONE if the set of links has no link at this index. */
  private static int linkAt(long links, int index) {
    int left = index;
    for (int link = 0; link < LINKS; link++) {
      if ((links >> link & 1) != 0) {
        if (left == 0) {
          return link;
        }
        left--;
      }
    }
    return NONE;
  }

  /** What the caller has built: routers, links, metrics and announcements, and what is up. */
  private static final class Topology {
    int routerCount;
    int linkCount;
    final boolean[] isRouterUp = new boolean[ROUTERS];
    final boolean[] isLinkUp = new boolean[LINKS];
    final boolean[] wasUsable = new boolean[LINKS];
    final int[] areaOfLink = new int[LINKS];
    final int[] routerOfPort = new int[PORTS];
    final int[] metricOfPort = new int[PORTS];
    final int[] portCount = new int[ROUTERS];
    final int[] announced = new int[ROUTERS * AREAS * NETWORKS];
    private final int[] ports = new int[ROUTERS * LINKS];
    private final boolean[] attached = new boolean[ROUTERS * AREAS];

    Topology() {
      Arrays.fill(announced, NONE);
    }

    int createRouter() {
      int router = routerCount;
      isRouterUp[router] = true;
      routerCount++;
      return router;
    }

    int createLink(int first, int second, int area, int metric0, int metric1) {
      int link = linkCount;
      isLinkUp[link] = true;
      areaOfLink[link] = area;
      attach(link * 2, first, area, metric0);
      attach(link * 2 + 1, second, area, metric1);
      linkCount++;
      return link;
    }

    private void attach(int port, int router, int area, int metric) {
      routerOfPort[port] = router;
      metricOfPort[port] = metric;
      ports[router * LINKS + portCount[router]] = port;
      portCount[router]++;
      attached[router * AREAS + area] = true;
    }

    boolean switchLink(int link, boolean isUp) {
      boolean wasUp = isLinkUp[link];
      isLinkUp[link] = isUp;
      if (!isUp) {
        wasUsable[link] = false;
      }
      return wasUp;
    }

    boolean switchRouter(int router, boolean isUp) {
      boolean wasUp = isRouterUp[router];
      isRouterUp[router] = isUp;
      if (!isUp) {
        for (int i = 0; i < portCount[router]; i++) {
          wasUsable[portAt(router, i) >> 1] = false;
        }
      }
      return wasUp;
    }

    /** The ports of a router stand in ascending order, as links are created in ascending order. */
    int portAt(int router, int index) {
      return ports[router * LINKS + index];
    }

    boolean canCarry(int link) {
      return isLinkUp[link]
          && isRouterUp[routerOfPort[link * 2]]
          && isRouterUp[routerOfPort[link * 2 + 1]];
    }

    boolean touches(int router, int area) {
      return isArea(area) && attached[router * AREAS + area];
    }

    boolean joinsAreas(int router) {
      int at = router * AREAS;
      return attached[at] && (attached[at + 1] || attached[at + 2] || attached[at + 3]);
    }

    int announcementAt(int router, int area, int network) {
      return (router * AREAS + area) * NETWORKS + network;
    }

    /** The metric with which a router has to list its end of a link, 0 if it must not list it. */
    int metricToList(int port) {
      return canCarry(port >> 1) ? metricOfPort[port] : 0;
    }

    void rememberUsableLinks() {
      for (int link = 0; link < linkCount; link++) {
        wasUsable[link] = canCarry(link);
      }
    }
  }

  /** The contents of all versions that may still be in a database or on a link. */
  private static final class Advertisements {
    int now;
    final int[] sequences = new int[KEYS * SLOTS];
    final int[] summaryCosts = new int[KEYS * SLOTS];
    // A port belongs to one router and one area, so its metric in a router advertisement stands by
    // port and slot alone; 0 if the link is not listed.
    private final int[] listedMetrics = new int[PORTS * SLOTS];
    private final int[] listedCosts = new int[ROUTERS * AREAS * NETWORKS * SLOTS];
    private final Topology topology;

    Advertisements(Topology topology) {
      this.topology = topology;
    }

    int versionMadeNow(int key) {
      return (key << SLOT_BITS) + (now & SLOT_MASK);
    }

    int ageOf(int version) {
      return (now - version) & SLOT_MASK;
    }

    /** Compares two versions of the same key. */
    boolean isNewer(int version, int other) {
      if (sequences[version] != sequences[other]) {
        return sequences[version] > sequences[other];
      }
      return ageOf(version) < ageOf(other);
    }

    int metricListed(int version, int port) {
      return listedMetrics[(port << SLOT_BITS) + (version & SLOT_MASK)];
    }

    int costListed(int version, int announcement) {
      return listedCosts[(announcement << SLOT_BITS) + (version & SLOT_MASK)];
    }

    int countListed(int version, int router, int area) {
      int count = 0;
      for (int i = 0; i < topology.portCount[router]; i++) {
        int port = topology.portAt(router, i);
        if (topology.areaOfLink[port >> 1] == area && metricListed(version, port) != 0) {
          count++;
        }
      }
      return count;
    }

    boolean isUpToDate(int version, int router, int area) {
      for (int i = 0; i < topology.portCount[router]; i++) {
        int port = topology.portAt(router, i);
        if (topology.areaOfLink[port >> 1] == area
            && metricListed(version, port) != topology.metricToList(port)) {
          return false;
        }
      }
      int first = topology.announcementAt(router, area, 0);
      for (int at = first; at < first + NETWORKS; at++) {
        if (costListed(version, at) != topology.announced[at]) {
          return false;
        }
      }
      return true;
    }

    void describe(int version, int router, int area) {
      int slot = version & SLOT_MASK;
      for (int i = 0; i < topology.portCount[router]; i++) {
        int port = topology.portAt(router, i);
        if (topology.areaOfLink[port >> 1] == area) {
          listedMetrics[(port << SLOT_BITS) + slot] = topology.metricToList(port);
        }
      }
      int first = topology.announcementAt(router, area, 0);
      for (int at = first; at < first + NETWORKS; at++) {
        listedCosts[(at << SLOT_BITS) + slot] = topology.announced[at];
      }
    }
  }

  /** Which version of each key each router holds, and what the originators know of their keys. */
  private static final class Databases {
    final int[] knownSequences = new int[KEYS];
    final boolean[] mustRenew = new boolean[KEYS];
    // By router and area: only router advertisements make distances old, summaries do not.
    final boolean[] pathsAreOld = new boolean[ROUTERS * AREAS];
    private final int[] held = new int[ROUTERS * KEYS];
    // Most ticks let nothing expire; this count spares them the search through all databases.
    private final int[] holdersOfSlot = new int[SLOTS];

    Databases() {
      Arrays.fill(held, NONE);
    }

    int versionHeld(int router, int key) {
      return held[router * KEYS + key];
    }

    boolean holdsSlot(int slot) {
      return holdersOfSlot[slot] > 0;
    }

    void replace(int router, int key, int version) {
      int at = router * KEYS + key;
      int former = held[at];
      if (former != NONE) {
        holdersOfSlot[former & SLOT_MASK]--;
      }
      if (version != NONE) {
        holdersOfSlot[version & SLOT_MASK]++;
      }
      held[at] = version;
      int area = key / KEYS_OF_AREA;
      if (key - area * KEYS_OF_AREA < ROUTERS) {
        pathsAreOld[router * AREAS + area] = true;
      }
    }

    int sizeOf(int router, int area) {
      int size = 0;
      int first = area * KEYS_OF_AREA;
      for (int key = first; key < first + KEYS_OF_AREA; key++) {
        if (versionHeld(router, key) != NONE) {
          size++;
        }
      }
      return size;
    }

    boolean areEqual(int router, int other, int area) {
      int first = area * KEYS_OF_AREA;
      for (int key = first; key < first + KEYS_OF_AREA; key++) {
        if (versionHeld(router, key) != versionHeld(other, key)) {
          return false;
        }
      }
      return true;
    }

    void forget(int router) {
      for (int key = 0; key < KEYS; key++) {
        replace(router, key, NONE);
      }
      for (int area = 0; area < AREAS; area++) {
        forgetKey(routerKey(area, router));
        for (int network = 0; network < NETWORKS; network++) {
          forgetKey(summaryKey(area, router, network));
        }
      }
    }

    private void forgetKey(int key) {
      knownSequences[key] = 0;
      mustRenew[key] = false;
    }
  }

  /** The messages of one tick: version << PORT_BITS + the port at which the message arrives. */
  private static final class Mail {
    int count;
    private int[] messages = new int[FIRST_MAIL_ROOM];

    void add(int version, int port) {
      if (count == messages.length && count < MOST_MAIL_ROOM) {
        messages = Arrays.copyOf(messages, count * 2);
      }
      if (count < messages.length) {
        messages[count] = (version << PORT_BITS) + port;
        count++;
      }
    }

    int versionAt(int index) {
      return messages[index] >> PORT_BITS;
    }

    int portAt(int index) {
      return messages[index] & PORT_MASK;
    }
  }

  /** Distances and first links, as each router computed them last. */
  private static final class Paths {
    final int[] distances = new int[ROUTERS * AREAS * ROUTERS];
    final long[] firstLinks = new long[ROUTERS * AREAS * ROUTERS];
    private final Topology topology;
    private final Advertisements advertisements;
    private final Databases databases;

    Paths(Topology topology, Advertisements advertisements, Databases databases) {
      this.topology = topology;
      this.advertisements = advertisements;
      this.databases = databases;
      Arrays.fill(distances, NONE);
    }

    void forget(int router) {
      for (int area = 0; area < AREAS; area++) {
        clearRow(rowOfPaths(router, area));
      }
    }

    private void clearRow(int row) {
      for (int at = row; at < row + ROUTERS; at++) {
        distances[at] = NONE;
        firstLinks[at] = 0;
      }
    }

    void computeIfOld(int router) {
      for (int area = 0; area < AREAS; area++) {
        if (topology.touches(router, area) && databases.pathsAreOld[router * AREAS + area]) {
          compute(router, area);
          databases.pathsAreOld[router * AREAS + area] = false;
        }
      }
    }

    private void compute(int router, int area) {
      int row = rowOfPaths(router, area);
      clearRow(row);
      distances[row + router] = 0;
      int settled = 0;
      for (int round = 0; round < topology.routerCount; round++) {
        int nearest = nearestOpen(row, settled);
        if (nearest == NONE) {
          return;
        }
        settled |= 1 << nearest;
        goOnFrom(nearest, router, area);
      }
    }

    private int nearestOpen(int row, int settled) {
      int nearest = NONE;
      for (int router = 0; router < topology.routerCount; router++) {
        int distance = distances[row + router];
        if (distance != NONE
            && (settled >> router & 1) == 0
            && (nearest == NONE || distance < distances[row + nearest])) {
          nearest = router;
        }
      }
      return nearest;
    }

    private void goOnFrom(int reached, int router, int area) {
      int row = rowOfPaths(router, area);
      for (int i = 0; i < topology.portCount[reached]; i++) {
        int port = topology.portAt(reached, i);
        int metric = topology.areaOfLink[port >> 1] == area ? knownMetric(port, router, area) : 0;
        if (metric != 0) {
          long first = reached == router ? 1L << (port >> 1) : firstLinks[row + reached];
          offer(row + topology.routerOfPort[port ^ 1], distances[row + reached] + metric, first);
        }
      }
    }

    /** The metric of the connection that begins at the port, 0 if the router knows none. */
    private int knownMetric(int port, int router, int area) {
      int here = databases.versionHeld(router, routerKey(area, topology.routerOfPort[port]));
      int there = databases.versionHeld(router, routerKey(area, topology.routerOfPort[port ^ 1]));
      if (here == NONE || there == NONE || advertisements.metricListed(there, port ^ 1) == 0) {
        return 0;
      }
      return advertisements.metricListed(here, port);
    }

    private void offer(int at, int distance, long first) {
      if (distances[at] == NONE || distance < distances[at]) {
        distances[at] = distance;
        firstLinks[at] = first;
      } else if (distance == distances[at]) {
        firstLinks[at] |= first;
      }
    }
  }

  /** The best of the candidates for one route that were offered since clear. */
  private static final class Candidates {
    int cost;
    long links;
    int areas;
    boolean isLocal;

    void clear() {
      cost = NONE;
      links = 0;
      areas = 0;
      isLocal = false;
    }

    void offer(int offeredCost, long offeredLinks, int area, boolean isOwn) {
      if (cost != NONE && offeredCost > cost) {
        return;
      }
      if (offeredCost != cost) {
        clear();
        cost = offeredCost;
      }
      links |= offeredLinks;
      areas |= 1 << area;
      isLocal |= isOwn;
    }
  }

  /** The routes, as each router computed them last. */
  private static final class Routes {
    final int[] kinds = new int[ROUTERS * NETWORKS];
    final int[] costs = new int[ROUTERS * NETWORKS];
    final long[] links = new long[ROUTERS * NETWORKS];
    final boolean[] locals = new boolean[ROUTERS * NETWORKS];
    final int[] changes = new int[ROUTERS];
    private final int[] areas = new int[ROUTERS * NETWORKS];
    private final Candidates best = new Candidates();
    private final Topology topology;
    private final Advertisements advertisements;
    private final Databases databases;
    private final Paths paths;

    Routes(
        Topology topology, Advertisements advertisements, Databases databases, Paths paths) {
      this.topology = topology;
      this.advertisements = advertisements;
      this.databases = databases;
      this.paths = paths;
      Arrays.fill(costs, NONE);
    }

    void forget(int router) {
      best.clear();
      for (int network = 0; network < NETWORKS; network++) {
        store(routeAt(router, network), NO_ROUTE);
      }
      changes[router] = 0;
    }

    void compute(int router) {
      int changed = 0;
      for (int network = 0; network < NETWORKS; network++) {
        int kind = findBest(router, network);
        int at = routeAt(router, network);
        if (differs(at, kind)) {
          changed++;
        }
        store(at, kind);
      }
      changes[router] = changed;
    }

    private int findBest(int router, int network) {
      best.clear();
      for (int area = 0; area < AREAS; area++) {
        if (topology.touches(router, area)) {
          offerAnnouncements(router, area, network);
        }
      }
      if (best.cost != NONE) {
        return INTRA_AREA;
      }
      int areasToAsk = topology.joinsAreas(router) ? 1 : AREAS;
      for (int area = 0; area < areasToAsk; area++) {
        if (topology.touches(router, area)) {
          offerSummaries(router, area, network);
        }
      }
      return best.cost != NONE ? INTER_AREA : NO_ROUTE;
    }

    private void offerAnnouncements(int router, int area, int network) {
      int row = rowOfPaths(router, area);
      for (int target = 0; target < topology.routerCount; target++) {
        int version = databases.versionHeld(router, routerKey(area, target));
        if (paths.distances[row + target] != NONE && version != NONE) {
          int announcement = topology.announcementAt(target, area, network);
          int cost = advertisements.costListed(version, announcement);
          if (cost != NONE) {
            int sum = paths.distances[row + target] + cost;
            best.offer(sum, paths.firstLinks[row + target], area, target == router);
          }
        }
      }
    }

    private void offerSummaries(int router, int area, int network) {
      int row = rowOfPaths(router, area);
      for (int target = 0; target < topology.routerCount; target++) {
        int version = databases.versionHeld(router, summaryKey(area, target, network));
        if (target != router && paths.distances[row + target] != NONE && version != NONE) {
          int cost = advertisements.summaryCosts[version];
          if (cost != UNREACHABLE) {
            int sum = paths.distances[row + target] + cost;
            best.offer(sum, paths.firstLinks[row + target], area, false);
          }
        }
      }
    }

    private boolean differs(int at, int kind) {
      return kinds[at] != kind
          || costs[at] != best.cost
          || links[at] != best.links
          || locals[at] != best.isLocal;
    }

    private void store(int at, int kind) {
      kinds[at] = kind;
      costs[at] = best.cost;
      links[at] = best.links;
      locals[at] = best.isLocal;
      areas[at] = best.areas;
    }

    /** The wanted cost of a border router, UNREACHABLE if there is none. */
    int costToTell(int router, int area, int network) {
      int at = routeAt(router, network);
      if (kinds[at] == INTER_AREA) {
        return area == 0 ? UNREACHABLE : costs[at];
      }
      boolean isFromElsewhere = kinds[at] == INTRA_AREA && (areas[at] >> area & 1) == 0;
      return isFromElsewhere ? costs[at] : UNREACHABLE;
    }
  }

  /** The parts of a tick. */
  private static final class Simulator {
    int lostCount;
    Mail sent = new Mail();
    private Mail arriving = new Mail();
    // A router whose surroundings and databases are as they were has nothing to do before one of
    // its own advertisements is old enough; until this tick it is passed over.
    private final int[] nextWork = new int[ROUTERS];
    private final Topology topology;
    private final Advertisements advertisements;
    private final Databases databases;
    private final Paths paths;
    private final Routes routes;

    Simulator(
        Topology topology,
        Advertisements advertisements,
        Databases databases,
        Paths paths,
        Routes routes) {
      this.topology = topology;
      this.advertisements = advertisements;
      this.databases = databases;
      this.paths = paths;
      this.routes = routes;
    }

    void wakeAll() {
      Arrays.fill(nextWork, 0);
    }

    void removeExpired() {
      if (!databases.holdsSlot((advertisements.now - LIFETIME) & SLOT_MASK)) {
        return;
      }
      for (int router = 0; router < topology.routerCount; router++) {
        for (int key = 0; key < KEYS; key++) {
          int version = databases.versionHeld(router, key);
          if (version != NONE && advertisements.ageOf(version) >= LIFETIME) {
            databases.replace(router, key, NONE);
            nextWork[router] = 0;
          }
        }
      }
    }

    int deliverMail() {
      Mail emptied = arriving;
      arriving = sent;
      sent = emptied;
      sent.count = 0;
      int delivered = 0;
      for (int i = 0; i < arriving.count; i++) {
        int version = arriving.versionAt(i);
        int port = arriving.portAt(i);
        if (topology.canCarry(port >> 1) && advertisements.ageOf(version) < LIFETIME) {
          receive(version, port);
          delivered++;
        } else {
          lostCount++;
        }
      }
      return delivered;
    }

    private void receive(int version, int port) {
      int router = topology.routerOfPort[port];
      int key = version >> SLOT_BITS;
      int own = databases.versionHeld(router, key);
      if (own == version) {
        return;
      }
      if (own != NONE && advertisements.isNewer(own, version)) {
        sent.add(own, port ^ 1);
        return;
      }
      nextWork[router] = 0;
      int area = topology.areaOfLink[port >> 1];
      if (originatorOf(key, area) == router) {
        databases.knownSequences[key] =
            Math.max(databases.knownSequences[key], advertisements.sequences[version]);
        databases.mustRenew[key] = true;
      } else {
        databases.replace(router, key, version);
        flood(version, router, area, port);
      }
    }

    private static int originatorOf(int key, int area) {
      int number = key - area * KEYS_OF_AREA;
      return number < ROUTERS ? number : (number - ROUTERS) / NETWORKS;
    }

    private void flood(int version, int router, int area, int exceptPort) {
      for (int i = 0; i < topology.portCount[router]; i++) {
        int port = topology.portAt(router, i);
        if (port != exceptPort
            && topology.areaOfLink[port >> 1] == area
            && topology.canCarry(port >> 1)) {
          sent.add(version, port ^ 1);
        }
      }
    }

    void letRoutersAct() {
      for (int router = 0; router < topology.routerCount; router++) {
        if (!topology.isRouterUp[router]) {
          continue;
        }
        if (advertisements.now < nextWork[router]) {
          routes.changes[router] = 0;
          continue;
        }
        nextWork[router] = advertisements.now + REFRESH_AGE;
        fillNewLinks(router);
        describeLinks(router);
        paths.computeIfOld(router);
        routes.compute(router);
        if (topology.joinsAreas(router)) {
          summarize(router);
        }
      }
    }

    private void fillNewLinks(int router) {
      for (int i = 0; i < topology.portCount[router]; i++) {
        int port = topology.portAt(router, i);
        if (topology.canCarry(port >> 1) && !topology.wasUsable[port >> 1]) {
          sendDatabase(router, port);
        }
      }
    }

    private void sendDatabase(int router, int port) {
      int first = topology.areaOfLink[port >> 1] * KEYS_OF_AREA;
      for (int key = first; key < first + KEYS_OF_AREA; key++) {
        int version = databases.versionHeld(router, key);
        if (version != NONE) {
          sent.add(version, port ^ 1);
        }
      }
    }

    private void describeLinks(int router) {
      for (int area = 0; area < AREAS; area++) {
        if (topology.touches(router, area)) {
          int key = routerKey(area, router);
          int own = databases.versionHeld(router, key);
          if (own == NONE
              || databases.mustRenew[key]
              || advertisements.ageOf(own) >= REFRESH_AGE
              || !advertisements.isUpToDate(own, router, area)) {
            int version = advertisements.versionMadeNow(key);
            advertisements.describe(version, router, area);
            originate(version, router, area);
          } else {
            noteRefresh(own, router);
          }
        }
      }
    }

    private void summarize(int router) {
      for (int area = 0; area < AREAS; area++) {
        for (int network = 0; network < NETWORKS && topology.touches(router, area); network++) {
          int key = summaryKey(area, router, network);
          int own = databases.versionHeld(router, key);
          int wanted = routes.costToTell(router, area, network);
          if (isSummaryDue(key, own, wanted)) {
            int version = advertisements.versionMadeNow(key);
            advertisements.summaryCosts[version] = wanted;
            originate(version, router, area);
          } else if (wanted != UNREACHABLE) {
            noteRefresh(own, router);
          }
        }
      }
    }

    private boolean isSummaryDue(int key, int own, int wanted) {
      int told = own == NONE ? UNREACHABLE : advertisements.summaryCosts[own];
      return told != wanted
          || databases.mustRenew[key]
          || (wanted != UNREACHABLE && advertisements.ageOf(own) >= REFRESH_AGE);
    }

    private void noteRefresh(int version, int router) {
      int refresh = advertisements.now - advertisements.ageOf(version) + REFRESH_AGE;
      nextWork[router] = Math.min(nextWork[router], refresh);
    }

    private void originate(int version, int router, int area) {
      int key = version >> SLOT_BITS;
      databases.knownSequences[key]++;
      advertisements.sequences[version] = databases.knownSequences[key];
      databases.mustRenew[key] = false;
      databases.replace(router, key, version);
      flood(version, router, area, NONE);
    }
  }

  /** Follows packets and keeps the way of the latest one. */
  private static final class Packet {
    int count;
    final int[] visited = new int[MOST_HOPS + 1];
    private final Topology topology;
    private final Routes routes;

    Packet(Topology topology, Routes routes) {
      this.topology = topology;
      this.routes = routes;
    }

    int follow(int start, int network) {
      int router = start;
      for (int hops = 0; hops <= MOST_HOPS; hops++) {
        visited[hops] = router;
        count = hops + 1;
        int at = routeAt(router, network);
        if (routes.locals[at]) {
          return hops;
        }
        int link = linkAt(routes.links[at], 0);
        if (link == NONE) {
          return -1;
        }
        if (!topology.canCarry(link)) {
          return -2;
        }
        boolean isAtEnd0 = topology.routerOfPort[link * 2] == router;
        router = topology.routerOfPort[isAtEnd0 ? link * 2 + 1 : link * 2];
      }
      return -3;
    }
  }
}
