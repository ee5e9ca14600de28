/**
 * The document's examples and its promises, as scripts of calls with the answers that are due. Each
 * script begins with new objects, a RoutingDomain and a PlainDomain.
 */
public final class PromiseTest extends Suite {
  private PromiseTest() {}

  public static void main(String[] args) {
    examples();
    newObject();
    topologyIsBuilt();
    topologyIsChanged();
    restarts();
    networksAreAnnounced();
    topologyIsTold();
    ticksPass();
    advertisementsAge();
    advertisementsAreFlooded();
    databasesAreTold();
    databasesAgree();
    distancesAreTold();
    distancesOfChanges();
    routesInsideAnArea();
    routesBetweenAreas();
    routesAreTold();
    summariesAreMade();
    changedRoutesAreCounted();
    packetsAreTraced();
    digestIsComputed();
    finish();
  }

  private static void examples() {
    check(
        "example 1",
        """
        addRouter() = 0; addRouter() = 1; addRouter() = 2; addLink(0, 1, 0, 10, 10) = 0;
        addLink(1, 2, 0, 10, 10) = 1; addLink(0, 2, 0, 20, 25) = 2; announce(2, 0, 4, 1) = -1;
        tick(1) = 0; distance(0, 0, 2) = -1; tick(3) = 12; distance(0, 0, 2) = 20;
        firstLinkCount(0, 0, 2) = 2; routeCost(0, 4) = 21; trace(0, 4) = 2
        """);
    check(
        "example 2",
        """
        addRouter() = 0; addRouter() = 1; addRouter() = 2; addLink(0, 1, 1, 2, 2) = 0;
        addLink(1, 2, 0, 3, 3) = 1; announce(0, 1, 9, 5) = -1; tick(5) = 5; isBorder(1) = true;
        summary(2, 0, 1, 9) = 7; routeKind(2, 9) = 2; routeCost(2, 9) = 10; isLocal(0, 9) = true
        """);
    check(
        "example 3",
        """
        addRouter() = 0; addRouter() = 1; addLink(0, 1, 0, 1, 1) = 0; tick(3) = 2;
        sequence(0, 0, 1) = 1; setRouter(1, false) = true; setRouter(1, true) = false;
        tick(3) = 4; sequence(0, 0, 1) = 1; agree(0, 1, 0) = true
        """);
    check(
        "example 4",
        """
        addRouter() = 0; addRouter() = 1; addLink(0, 1, 0, 1, 1) = 0; announce(1, 0, 2, 3) = -1;
        tick(3) = 2; setLink(0, false) = true; trace(0, 2) = -2; tick(1) = 0; trace(0, 2) = -1;
        routeCost(0, 2) = throws NoSuchElementException;
        announce(0, 1, 2, 3) = throws IllegalStateException
        """);
    check(
        "the example of README.md",
        """
        addRouter() = 0; addRouter() = 1; addLink(0, 1, 0, 10, 20) = 0; announce(1, 0, 4, 1) = -1;
        tick(3); routeCost(0, 4) = 11; trace(0, 4) = 1; setLink(0, false); trace(0, 4) = -2;
        tick(1); routeKind(0, 4) = 0
        """);
  }

  private static void newObject() {
    check(
        "promise 1",
        """
        routerCount() = 0; linkCount() = 0; clock() = 0; inFlight() = 0; lost() = 0;
        digest() = 566029; tracedRouter(0) = throws NoSuchElementException;
        isUsable(0) = throws IndexOutOfBoundsException;
        isBorder(0) = throws IndexOutOfBoundsException; tick(60) = 0; clock() = 60
        """);
  }

  private static void topologyIsBuilt() {
    check(
        "promise 2: sixteen routers",
        times(15, "addRouter()"),
        """
        addRouter() = 15; addRouter() = throws IllegalStateException; routerCount() = 16;
        isBorder(15) = false; isBorder(16) = throws IndexOutOfBoundsException;
        addRouter() = throws IllegalStateException; routerCount() = 16
        """);
    check(
        "promise 3: wrong arguments, the exception named first",
        """
        addRouter(); addRouter();
        addLink(0, 2, 0, 1, 1) = throws IndexOutOfBoundsException;
        addLink(-1, 0, 0, 1, 1) = throws IndexOutOfBoundsException;
        addLink(2, 2, 9, 0, 0) = throws IndexOutOfBoundsException;
        addLink(0, 7, 4, 1, 1) = throws IndexOutOfBoundsException;
        addLink(1, 1, 0, 1, 1) = throws IllegalArgumentException;
        addLink(0, 1, -1, 1, 1) = throws IllegalArgumentException;
        addLink(0, 1, 4, 1, 1) = throws IllegalArgumentException;
        addLink(0, 1, 0, 0, 1) = throws IllegalArgumentException;
        addLink(0, 1, 0, 1001, 1) = throws IllegalArgumentException;
        addLink(0, 1, 0, 1, 0) = throws IllegalArgumentException;
        addLink(0, 1, 0, 1, 1001) = throws IllegalArgumentException;
        linkCount() = 0; databaseSize(0, 0) = throws IndexOutOfBoundsException;
        addLink(0, 1, 0, 1, 1000) = 0; addLink(1, 0, 3, 1000, 1) = 1; linkCount() = 2;
        databaseSize(0, 0) = 0; databaseSize(1, 3) = 0; isUsable(0) = true
        """);
    check(
        "promise 3: forty links",
        "addRouter(); addRouter();",
        times(39, "addLink(0, 1, 0, 1, 1)"),
        """
        addLink(0, 1, 0, 1, 1) = 39; addLink(0, 1, 0, 1, 1) = throws IllegalStateException;
        addLink(0, 0, 0, 1, 1) = throws IllegalArgumentException;
        addLink(0, 2, 0, 1, 1) = throws IndexOutOfBoundsException;
        addLink(0, 1, 1, 1, 1) = throws IllegalStateException; linkCount() = 40;
        isBorder(0) = false; databaseSize(0, 1) = throws IndexOutOfBoundsException;
        tick(1) = 0; inFlight() = 80; tick(1) = 80; inFlight() = 78; tick(1) = 78; inFlight() = 0;
        firstLinkCount(0, 0, 1) = 40; firstLink(0, 0, 1, 39) = 39;
        firstLink(0, 0, 1, 40) = throws NoSuchElementException; listedLinks(0, 0, 1) = 40
        """);
  }

  private static void topologyIsChanged() {
    check(
        "promise 4",
        PAIR,
        """
        setLink(1, true) = throws IndexOutOfBoundsException;
        setLink(-1, false) = throws IndexOutOfBoundsException;
        setLink(0, true) = true; setLink(0, false) = true; setLink(0, false) = false;
        isUsable(0) = false; tick(2) = 0; inFlight() = 0; listedLinks(0, 0, 0) = 0;
        setLink(0, true) = false; setLink(0, true) = true; isUsable(0) = true; tick(1) = 0;
        inFlight() = 4
        """);
    check(
        "promise 4: down and up again between two ticks counts as new",
        PAIR,
        """
        tick(5) = 2; inFlight() = 0; setLink(0, true) = true; tick(1) = 0; inFlight() = 0;
        setLink(0, false) = true; setLink(0, true) = false; tick(1) = 0; inFlight() = 4;
        sequence(0, 0, 0) = 1; tick(1) = 4; inFlight() = 0
        """);
    check(
        "promise 5",
        PAIR,
        """
        setMetric(1, 0, 5) = throws IndexOutOfBoundsException;
        setMetric(-1, 0, 0) = throws IndexOutOfBoundsException;
        setMetric(0, 2, 0) = throws IndexOutOfBoundsException;
        setMetric(0, -1, 5) = throws IndexOutOfBoundsException;
        setMetric(0, 0, 0) = throws IllegalArgumentException;
        setMetric(0, 1, 1001) = throws IllegalArgumentException;
        setMetric(0, 0, 1000) = 10; setMetric(0, 0, 7) = 1000; setMetric(0, 1, 1) = 20;
        setMetric(0, 1, 8) = 1; tick(2) = 2; distance(0, 0, 1) = 7; distance(1, 0, 0) = 8;
        setMetric(0, 0, 9) = 7; distance(0, 0, 1) = 7; tick(1) = 0; distance(0, 0, 1) = 9;
        sequence(0, 0, 0) = 2; sequence(1, 0, 0) = 1; sequence(1, 0, 1) = 1
        """);
    check(
        "promise 5: a metric that is set back before the tick is no difference",
        PAIR,
        "tick(3) = 2; setMetric(0, 0, 9) = 10; setMetric(0, 0, 10) = 9; tick(1); inFlight() = 0");
    check(
        "promise 6",
        CHAIN,
        """
        setRouter(3, true) = throws IndexOutOfBoundsException;
        setRouter(-1, false) = throws IndexOutOfBoundsException;
        tick(5); setRouter(1, true) = true; setRouter(1, false) = true;
        setRouter(1, false) = false; isUsable(0) = false; isUsable(1) = false;
        databaseSize(1, 0) = 0; databaseSize(0, 0) = 3; linkCount() = 2;
        distance(1, 0, 1) = -1; routeKind(1, 5) = 0; changedRoutes(1) = 0;
        tick(3); routeKind(0, 5) = 0; setRouter(1, true) = false; isUsable(0) = true;
        setRouter(1, true) = true; tick(6); routeCost(0, 5) = 43; agree(0, 2, 0) = true
        """);
    check(
        "promise 6: announcements stay while a router is down, and can be changed",
        CHAIN,
        """
        setRouter(2, false) = true; tick(4); routeKind(0, 5) = 0; announce(2, 0, 5, 4) = 3;
        announce(2, 0, 6, 0) = -1; withdraw(2, 0, 6) = 0; setMetric(1, 0, 31) = 30;
        setRouter(2, true) = false; tick(5); routeCost(0, 5) = 45; routeKind(0, 6) = 0
        """);
  }

  private static void restarts() {
    check(
        "no route of a former life, to the first network nor to the last",
        PAIR,
        """
        announce(0, 0, 0, 1); announce(1, 0, 15, 2); tick(4); setRouter(0, false);
        routeKind(0, 0) = 0; isLocal(0, 0) = false; routeKind(0, 15) = 0;
        isLocal(0, 15) = false; routeLinkCount(0, 15) = 0; setRouter(0, true);
        routeKind(0, 0) = 0; isLocal(0, 0) = false; tick(1); isLocal(0, 0) = true;
        routeKind(0, 15) = 0
        """);
    check(
        "a renewed advertisement is not renewed again",
        PAIR,
        """
        tick(2); announce(1, 0, 0, 0); tick(2); setRouter(1, false); setRouter(1, true);
        tick(2); sequence(1, 0, 1) = 3; inFlight() = 2; tick(3); inFlight() = 0;
        sequence(1, 0, 1) = 3; announce(0, 0, 1, 0); tick(3) = 1; sequence(1, 0, 1) = 3
        """);
    check(
        "a border router that comes back forgets the sequence numbers of its summaries",
        """
        addRouter(); addRouter(); addRouter(); addLink(0, 1, 0, 1, 1) = 0;
        addLink(0, 2, 1, 1, 1) = 1; announce(2, 1, 0, 4); tick(5); inFlight() = 0;
        summary(1, 0, 0, 0) = 5; setMetric(1, 0, 2); tick(4); summary(1, 0, 0, 0) = 6;
        setRouter(0, false); tick(1); setRouter(0, true); setLink(0, false); tick(3);
        summary(0, 0, 0, 0) = 6; summary(1, 0, 0, 0) = 6; setLink(0, true); tick(1);
        inFlight() = 7; tick(1) = 7; agree(0, 1, 0) = false; inFlight() = 3; tick(1) = 3;
        agree(0, 1, 0) = true; inFlight() = 1; tick(1) = 1; inFlight() = 0
        """);
  }

  private static void networksAreAnnounced() {
    check(
        "promise 7",
        PAIR,
        """
        announce(2, 0, 0, 0) = throws IndexOutOfBoundsException;
        announce(-1, 5, 0, -1) = throws IndexOutOfBoundsException;
        announce(0, 0, 16, -1) = throws IndexOutOfBoundsException;
        announce(0, 0, -1, 1) = throws IndexOutOfBoundsException;
        announce(0, 1, 0, 1001) = throws IllegalArgumentException;
        announce(0, 0, 0, -1) = throws IllegalArgumentException;
        announce(0, 1, 0, 1) = throws IllegalStateException;
        announce(0, -1, 0, 1) = throws IllegalStateException;
        announce(0, 4, 0, 1) = throws IllegalStateException;
        announce(0, 0, 0, 1000) = -1; announce(0, 0, 0, 0) = 1000; announce(0, 0, 0, 2) = 0;
        announce(1, 0, 15, 0) = -1; announce(1, 0, 0, 1) = -1;
        addLink(0, 1, 1, 1, 1) = 1; announce(0, 1, 0, 7) = -1; announce(0, 0, 0, 2) = 2;
        tick(2); routeCost(1, 0) = 1; isLocal(1, 0) = true; routeCost(0, 15) = 10
        """);
    check(
        "promise 8",
        PAIR,
        """
        withdraw(0, 0, 3) = throws NoSuchElementException; announce(0, 0, 3, 0) = -1;
        withdraw(2, 0, 3) = throws IndexOutOfBoundsException;
        withdraw(-1, 0, 3) = throws IndexOutOfBoundsException;
        withdraw(0, 4, 3) = throws IndexOutOfBoundsException;
        withdraw(0, -1, 3) = throws IndexOutOfBoundsException;
        withdraw(0, 0, 16) = throws IndexOutOfBoundsException;
        withdraw(0, 0, -1) = throws IndexOutOfBoundsException;
        withdraw(0, 1, 3) = throws NoSuchElementException;
        withdraw(0, 0, 4) = throws NoSuchElementException;
        withdraw(1, 0, 3) = throws NoSuchElementException;
        tick(3); routeKind(1, 3) = 1; withdraw(0, 0, 3) = 0;
        withdraw(0, 0, 3) = throws NoSuchElementException; routeKind(0, 3) = 1;
        tick(1); routeKind(0, 3) = 0; routeKind(1, 3) = 1; tick(1); routeKind(1, 3) = 0;
        sequence(1, 0, 0) = 2; announce(0, 0, 3, 4) = -1
        """);
  }

  private static void topologyIsTold() {
    check(
        "promises 9 and 10",
        "routerCount() = 0; linkCount() = 0;",
        PAIR,
        """
        routerCount() = 2; linkCount() = 1; addRouter() = 2; routerCount() = 3;
        addLink(0, 2, 0, 1, 1) = 1; linkCount() = 2; setRouter(0, false); setLink(0, false);
        routerCount() = 3; linkCount() = 2
        """);
    check(
        "promise 11",
        CHAIN,
        """
        isUsable(-1) = throws IndexOutOfBoundsException;
        isUsable(2) = throws IndexOutOfBoundsException; isUsable(0) = true; isUsable(1) = true;
        setRouter(0, false); isUsable(0) = false; isUsable(1) = true; setLink(0, false) = true;
        setRouter(0, true); isUsable(0) = false; setLink(0, true) = false; isUsable(0) = true;
        setRouter(1, false); isUsable(0) = false; isUsable(1) = false
        """);
    check(
        "promise 12",
        """
        addRouter(); addRouter(); addRouter();
        isBorder(3) = throws IndexOutOfBoundsException;
        isBorder(-1) = throws IndexOutOfBoundsException; isBorder(0) = false;
        addLink(0, 1, 1, 1, 1); addLink(0, 1, 2, 1, 1); isBorder(0) = false;
        addLink(0, 2, 0, 1, 1); isBorder(0) = true; isBorder(1) = false; isBorder(2) = false;
        setLink(2, false); setRouter(0, false); isBorder(0) = true; addLink(2, 1, 3, 1, 1);
        isBorder(2) = true; isBorder(1) = false
        """);
  }

  private static void ticksPass() {
    check(
        "promise 13 and 14",
        PAIR,
        """
        tick(0) = throws IllegalArgumentException; tick(61) = throws IllegalArgumentException;
        tick(-1) = throws IllegalArgumentException; clock() = 0; inFlight() = 0;
        tick(1) = 0; clock() = 1; tick(1) = 2; clock() = 2; tick(60) = 4; clock() = 62
        """);
    check(
        "promise 15",
        CHAIN,
        """
        inFlight() = 0; tick(1); inFlight() = 4; setLink(0, false); inFlight() = 4;
        setRouter(2, false); inFlight() = 4; tick(1) = 0; lost() = 4; inFlight() = 0
        """);
    check(
        "promise 16: a message is lost if its link is not usable when it would arrive",
        CHAIN,
        """
        lost() = 0; tick(1) = 0; setLink(0, false); tick(1) = 2; lost() = 2; tick(5);
        lost() = 2; setLink(0, true); tick(1) = 0; setLink(0, false); setLink(0, true);
        tick(1) = 6; lost() = 2; inFlight() = 8; setRouter(0, false); lost() = 2; tick(1) = 2;
        lost() = 8
        """);
    check(
        "promise 16: what is 60 ticks old is lost",
        CHAIN,
        """
        setLink(1, false) = true; tick(3); setRouter(0, false) = true; tick(56);
        clock() = 59; lost() = 0; databaseSize(1, 0) = 2; setLink(1, true) = false;
        tick(1) = 0; inFlight() = 5; databaseSize(1, 0) = 2; tick(1) = 4; lost() = 1;
        databaseSize(1, 0) = 2; databaseSize(2, 0) = 2; sequence(2, 0, 0) = 0
        """);
  }

  private static void advertisementsAge() {
    check(
        "an advertisement is renewed at the age of 30",
        PAIR,
        """
        tick(30); sequence(0, 0, 0) = 1; inFlight() = 0; tick(1) = 0; sequence(0, 0, 0) = 2;
        sequence(0, 0, 1) = 1; inFlight() = 2; tick(1) = 2; sequence(0, 0, 1) = 2; tick(28);
        sequence(0, 0, 0) = 2; tick(1); sequence(0, 0, 0) = 3
        """);
    check(
        "an advertisement is removed at the age of 60",
        PAIR,
        """
        tick(3); setRouter(1, false); tick(57); clock() = 60; sequence(0, 0, 1) = 1;
        databaseSize(0, 0) = 2; tick(1); sequence(0, 0, 1) = 0; databaseSize(0, 0) = 1;
        listedLinks(0, 0, 1) = -1; sequence(0, 0, 0) = 3
        """);
    check(
        "a changed advertisement is renewed 30 ticks after the change",
        PAIR,
        """
        tick(10); announce(0, 0, 0, 0); tick(1); sequence(0, 0, 0) = 2; tick(29);
        sequence(0, 0, 0) = 2; tick(1); clock() = 41; sequence(0, 0, 0) = 3;
        sequence(1, 0, 1) = 2
        """);
    check(
        "a summary is renewed at the age of 30",
        THREE_AREAS,
        """
        tick(10); summary(2, 0, 1, 9) = 6; setLink(1, false); tick(1); setLink(1, true);
        tick(60); summary(2, 0, 1, 9) = 6; tick(60); summary(2, 0, 1, 9) = 6;
        summary(3, 2, 2, 9) = 8; routeCost(3, 9) = 12
        """);
    check(
        "a summary has its own age",
        THREE_AREAS,
        """
        tick(12); announce(0, 1, 9, 6); tick(2); summary(1, 0, 1, 9) = 7; clock() = 14;
        tick(28); sequence(1, 0, 1) = 2; inFlight() = 0; tick(1) = 0; clock() = 43;
        inFlight() = 1; tick(1) = 1; inFlight() = 1; tick(1) = 1; inFlight() = 1; tick(1) = 1;
        inFlight() = 0
        """);
    check(
        "unreachable is not renewed and goes at the age of 60",
        THREE_AREAS,
        """
        tick(8); summary(1, 0, 1, 9) = 6; withdraw(0, 1, 9) = 5; tick(1);
        summary(1, 0, 1, 9) = 6; tick(1); clock() = 10; summary(1, 0, 1, 9) = -1;
        tick(59); summary(1, 0, 1, 9) = -1; summary(2, 0, 1, 9) = -1; tick(1);
        summary(1, 0, 1, 9) = -2; summary(2, 0, 1, 9) = -2;
        announce(0, 1, 9, 1) = -1; tick(3); summary(2, 0, 1, 9) = 2
        """);
  }

  private static void advertisementsAreFlooded() {
    check(
        "not over the link on which it came",
        CHAIN,
        """
        tick(1) = 0; inFlight() = 4; tick(1) = 4; inFlight() = 2; tick(1) = 2; inFlight() = 0;
        databaseSize(0, 0) = 3; databaseSize(2, 0) = 3
        """);
    check(
        "only over links of the area",
        THREE_AREAS,
        """
        tick(1) = 0; inFlight() = 6; databaseSize(1, 1) = 1; databaseSize(1, 0) = 1; tick(1) = 6;
        databaseSize(1, 1) = 2; databaseSize(1, 0) = 3; databaseSize(0, 1) = 2
        """);
    check(
        "a link that comes up carries the whole databases; an older one is answered",
        CHAIN,
        """
        tick(4); setLink(0, false); tick(2); setMetric(1, 1, 41); tick(3);
        sequence(0, 0, 2) = 1; sequence(1, 0, 2) = 2; sequence(1, 0, 1) = 2;
        setLink(0, true); tick(1) = 0; inFlight() = 9; tick(1) = 9; inFlight() = 5;
        sequence(0, 0, 2) = 2; tick(1) = 5; inFlight() = 0; agree(0, 2, 0) = true;
        sequence(2, 0, 1) = 3; sequence(2, 0, 0) = 3
        """);
    check(
        "a router that comes back goes on behind its former sequence number",
        PAIR,
        """
        tick(2); announce(1, 0, 0, 0); tick(1); announce(1, 0, 1, 0); tick(2);
        sequence(0, 0, 1) = 3; setRouter(1, false); tick(1); setRouter(1, true); tick(1);
        sequence(1, 0, 1) = 1; tick(1); sequence(1, 0, 1) = 4; sequence(0, 0, 1) = 3; tick(1);
        sequence(0, 0, 1) = 4; agree(0, 1, 0) = true
        """);
    check(
        "of equal sequence numbers the later birth is newer",
        PAIR,
        """
        tick(3); announce(1, 0, 0, 8); setRouter(1, false); setRouter(1, true); tick(2);
        sequence(0, 0, 1) = 1; routeCost(0, 0) = 18; tick(2); sequence(1, 0, 1) = 1
        """);
    check(
        "a summary of a former life is renewed, also as unreachable",
        THREE_AREAS,
        """
        tick(8); summary(2, 0, 1, 9) = 6; setRouter(1, false); setRouter(0, false); tick(3);
        setRouter(1, true); tick(1); summary(1, 0, 1, 9) = -2; tick(1);
        summary(1, 0, 1, 9) = -1; tick(1); summary(2, 0, 1, 9) = -1; routeKind(3, 9) = 2;
        tick(2); routeKind(3, 9) = 0
        """);
  }

  private static void databasesAreTold() {
    check(
        "promise 17",
        THREE_AREAS,
        """
        databaseSize(4, 1) = throws IndexOutOfBoundsException;
        databaseSize(-1, 1) = throws IndexOutOfBoundsException;
        databaseSize(0, 0) = throws IndexOutOfBoundsException;
        databaseSize(0, 4) = throws IndexOutOfBoundsException;
        databaseSize(0, -1) = throws IndexOutOfBoundsException;
        databaseSize(1, 1) = 0; tick(8); databaseSize(1, 1) = 2; databaseSize(1, 0) = 3;
        databaseSize(3, 2) = 3; databaseSize(0, 1) = 2; setRouter(1, false);
        databaseSize(1, 1) = 0; databaseSize(1, 2) = throws IndexOutOfBoundsException
        """);
    check(
        "promise 18",
        PAIR,
        """
        addRouter(); sequence(0, 0, 1) = 0; tick(1); sequence(0, 0, 0) = 1;
        sequence(0, 0, 1) = 0; tick(1); sequence(0, 0, 1) = 1; sequence(0, 0, 2) = 0;
        sequence(3, 0, 0) = throws IndexOutOfBoundsException;
        sequence(0, 0, 3) = throws IndexOutOfBoundsException;
        sequence(0, 0, -1) = throws IndexOutOfBoundsException;
        sequence(0, 1, 1) = throws IndexOutOfBoundsException;
        sequence(0, 4, 1) = throws IndexOutOfBoundsException;
        sequence(2, 0, 0) = throws IndexOutOfBoundsException;
        sequence(-1, 0, 0) = throws IndexOutOfBoundsException;
        setRouter(0, false); sequence(0, 0, 0) = 0; sequence(1, 0, 0) = 1
        """);
    check(
        "promise 19",
        CHAIN,
        """
        listedLinks(0, 0, 0) = -1; tick(3); listedLinks(0, 0, 0) = 1; listedLinks(0, 0, 1) = 2;
        listedLinks(2, 0, 1) = 2; addRouter(); listedLinks(0, 0, 3) = -1;
        addLink(1, 2, 0, 9, 9); listedLinks(1, 0, 1) = 2; tick(1); listedLinks(1, 0, 1) = 3;
        listedLinks(0, 0, 1) = 2; tick(1); listedLinks(0, 0, 1) = 3; setLink(1, false);
        tick(2); listedLinks(0, 0, 1) = 2; addLink(1, 3, 1, 1, 1); tick(2);
        listedLinks(1, 0, 1) = 2; listedLinks(1, 1, 1) = 1; setRouter(0, false);
        listedLinks(0, 0, 1) = -1; listedLinks(4, 0, 0) = throws IndexOutOfBoundsException;
        listedLinks(0, 0, 4) = throws IndexOutOfBoundsException;
        listedLinks(0, 1, 0) = throws IndexOutOfBoundsException;
        listedLinks(0, 4, 0) = throws IndexOutOfBoundsException;
        listedLinks(0, 0, -1) = throws IndexOutOfBoundsException
        """);
    check(
        "promise 20",
        THREE_AREAS,
        """
        summary(1, 0, 1, 9) = -2; tick(8); summary(1, 0, 1, 9) = 6; summary(2, 0, 1, 9) = 6;
        summary(2, 2, 2, 9) = 8; summary(3, 2, 2, 9) = 8; summary(3, 2, 2, 8) = -2;
        summary(2, 0, 2, 9) = -2; summary(1, 1, 1, 9) = -2; summary(2, 0, 3, 9) = -2;
        summary(4, 0, 0, 0) = throws IndexOutOfBoundsException;
        summary(2, 0, 4, 0) = throws IndexOutOfBoundsException;
        summary(2, 0, -1, 0) = throws IndexOutOfBoundsException;
        summary(2, 1, 0, 0) = throws IndexOutOfBoundsException;
        summary(2, 4, 0, 0) = throws IndexOutOfBoundsException;
        summary(2, 0, 0, 16) = throws IndexOutOfBoundsException;
        summary(2, 0, 0, -1) = throws IndexOutOfBoundsException;
        withdraw(0, 1, 9) = 5; tick(5); summary(3, 2, 2, 9) = -1; summary(2, 0, 1, 9) = -1;
        setRouter(3, false); summary(3, 2, 2, 9) = -2
        """);
  }

  private static void databasesAgree() {
    check(
        "promise 21",
        CHAIN,
        """
        agree(0, 2, 0) = true; agree(0, 0, 0) = true; tick(1); agree(0, 1, 0) = false;
        agree(0, 0, 0) = true; tick(1); agree(0, 1, 0) = false; tick(1); agree(0, 1, 0) = true;
        agree(0, 2, 0) = true; setRouter(2, false); agree(0, 2, 0) = false;
        agree(2, 0, 0) = false; agree(2, 2, 0) = false; agree(0, 1, 0) = true;
        addRouter() = 3; agree(0, 3, 0) = throws IndexOutOfBoundsException;
        agree(3, 0, 0) = throws IndexOutOfBoundsException;
        agree(0, 4, 0) = throws IndexOutOfBoundsException;
        agree(-1, 0, 0) = throws IndexOutOfBoundsException;
        agree(0, 1, 1) = throws IndexOutOfBoundsException;
        agree(0, 1, 4) = throws IndexOutOfBoundsException;
        agree(0, 1, -1) = throws IndexOutOfBoundsException
        """);
    check(
        "promise 21: equal sequence numbers, different births",
        PAIR,
        """
        tick(3); agree(0, 1, 0) = true; setRouter(1, false); setRouter(1, true); tick(1);
        sequence(0, 0, 1) = 1; sequence(1, 0, 1) = 1; setLink(0, false); tick(2);
        sequence(1, 0, 1) = 2; sequence(0, 0, 1) = 1; agree(0, 1, 0) = false
        """);
    check(
        "promise 21: summaries count, too, and other areas do not",
        THREE_AREAS,
        """
        tick(8); agree(1, 2, 0) = true; setLink(1, false); withdraw(0, 1, 9); tick(4);
        setLink(1, true); tick(1); agree(1, 2, 0) = false; agree(0, 1, 1) = true; tick(4);
        agree(1, 2, 0) = true; announce(0, 1, 9, 1); tick(1); agree(0, 1, 1) = false;
        agree(1, 2, 0) = true; tick(1); agree(1, 2, 0) = false; agree(0, 1, 1) = true
        """);
  }

  private static void distancesAreTold() {
    check(
        "promise 22",
        CHAIN,
        """
        distance(0, 0, 0) = -1; tick(1); distance(0, 0, 0) = 0; distance(0, 0, 1) = -1; tick(1);
        distance(0, 0, 1) = 10; distance(0, 0, 2) = -1; tick(1); distance(0, 0, 2) = 40;
        distance(2, 0, 0) = 60; distance(1, 0, 0) = 20; addRouter() = 3; distance(0, 0, 3) = -1;
        distance(3, 0, 0) = throws IndexOutOfBoundsException;
        distance(0, 0, 4) = throws IndexOutOfBoundsException;
        distance(0, 0, -1) = throws IndexOutOfBoundsException;
        distance(4, 0, 0) = throws IndexOutOfBoundsException;
        distance(-1, 0, 0) = throws IndexOutOfBoundsException;
        distance(0, 1, 0) = throws IndexOutOfBoundsException;
        distance(0, 4, 0) = throws IndexOutOfBoundsException;
        distance(0, -1, 0) = throws IndexOutOfBoundsException
        """);
    check(
        "promise 23",
        CHAIN,
        """
        addLink(0, 1, 0, 10, 21); addLink(0, 2, 0, 40, 61); firstLinkCount(0, 0, 1) = 0;
        tick(1); firstLinkCount(0, 0, 0) = 0; firstLinkCount(0, 0, 2) = 0; tick(3);
        firstLinkCount(0, 0, 0) = 0; firstLinkCount(0, 0, 1) = 2; firstLinkCount(0, 0, 2) = 3;
        firstLinkCount(1, 0, 0) = 1; firstLinkCount(2, 0, 0) = 1; distance(2, 0, 0) = 60;
        addRouter(); firstLinkCount(0, 0, 3) = 0;
        firstLinkCount(3, 0, 0) = throws IndexOutOfBoundsException;
        firstLinkCount(0, 0, 4) = throws IndexOutOfBoundsException;
        firstLinkCount(0, 2, 0) = throws IndexOutOfBoundsException;
        firstLinkCount(0, 4, 0) = throws IndexOutOfBoundsException;
        setRouter(0, false); firstLinkCount(0, 0, 2) = 0; setRouter(0, true);
        firstLinkCount(0, 0, 2) = 0
        """);
    check(
        "promise 24",
        CHAIN,
        """
        addLink(0, 2, 0, 40, 60); addLink(0, 1, 0, 10, 10); tick(4);
        firstLink(0, 0, 2, 0) = 0; firstLink(0, 0, 2, 1) = 2; firstLink(0, 0, 2, 2) = 3;
        firstLink(0, 0, 2, 3) = throws NoSuchElementException;
        firstLink(0, 0, 2, -1) = throws NoSuchElementException;
        firstLink(0, 0, 0, 0) = throws NoSuchElementException;
        firstLink(0, 0, 1, 1) = 3; firstLink(1, 0, 0, 0) = 3; firstLink(2, 0, 0, 0) = 1;
        firstLink(2, 0, 0, 1) = throws NoSuchElementException;
        firstLink(3, 0, 2, 0) = throws IndexOutOfBoundsException;
        firstLink(0, 0, 3, -1) = throws IndexOutOfBoundsException;
        firstLink(0, 1, 2, 9) = throws IndexOutOfBoundsException;
        firstLink(0, 4, 2, 0) = throws IndexOutOfBoundsException
        """);
  }

  private static void distancesOfChanges() {
    check(
        "a connection must be listed at both ends",
        CHAIN,
        """
        tick(4); distance(0, 0, 2) = 40; setLink(1, false); distance(0, 0, 2) = 40; tick(1);
        distance(0, 0, 2) = 40; distance(1, 0, 2) = -1; distance(2, 0, 0) = -1;
        listedLinks(2, 0, 1) = 2; tick(1); distance(0, 0, 2) = -1; distance(0, 0, 1) = 10
        """);
    check(
        "each end has its metric",
        PAIR,
        """
        addLink(0, 1, 0, 30, 5) = 1; tick(3); distance(0, 0, 1) = 10; distance(1, 0, 0) = 5;
        firstLink(0, 0, 1, 0) = 0; firstLink(1, 0, 0, 0) = 1
        """);
    check(
        "no distance, not even 0, in an area since the latest tick",
        PAIR,
        """
        tick(2); distance(0, 0, 0) = 0; addLink(0, 1, 1, 1, 1); distance(0, 1, 0) = -1;
        distance(0, 1, 1) = -1; distance(0, 0, 1) = 10; firstLinkCount(0, 1, 1) = 0;
        tick(1); distance(0, 1, 0) = 0; distance(0, 1, 1) = -1; tick(1); distance(0, 1, 1) = 1;
        distance(0, 0, 1) = 10
        """);
    check(
        "a router that came up has no distances before the next tick",
        PAIR,
        """
        tick(3); setRouter(0, false); distance(0, 0, 0) = -1; setRouter(0, true);
        distance(0, 0, 0) = -1; distance(0, 0, 1) = -1; distance(1, 0, 0) = 20; tick(1);
        distance(0, 0, 0) = 0
        """);
  }

  private static void routesInsideAnArea() {
    check(
        "the smallest sum, with the links of all of this sum",
        CHAIN,
        """
        announce(1, 0, 5, 33); tick(4); routeKind(0, 5) = 1; routeCost(0, 5) = 43;
        routeLinkCount(0, 5) = 1; isLocal(0, 5) = false; isLocal(1, 5) = true;
        routeCost(1, 5) = 33; routeLinkCount(1, 5) = 1; routeLink(1, 5, 0) = 1;
        routeLinkCount(2, 5) = 0; isLocal(2, 5) = true; routeCost(2, 5) = 3
        """);
    check(
        "a dearer announcement of its own does not make a route local",
        PAIR,
        """
        announce(0, 0, 1, 50); announce(1, 0, 1, 0); tick(1); isLocal(0, 1) = true;
        routeCost(0, 1) = 50; tick(1); isLocal(0, 1) = false; routeCost(0, 1) = 10;
        routeLinkCount(0, 1) = 1; announce(0, 0, 1, 10); tick(1); isLocal(0, 1) = true;
        routeLinkCount(0, 1) = 1; routeKind(0, 1) = 1; trace(0, 1) = 0
        """);
    check(
        "several areas of equal cost",
        PAIR,
        """
        addLink(0, 1, 1, 7, 7); announce(1, 0, 1, 0); announce(1, 1, 1, 3); tick(3);
        routeCost(0, 1) = 10; routeLinkCount(0, 1) = 2; routeLink(0, 1, 1) = 1;
        summary(0, 0, 0, 1) = -2; summary(0, 1, 0, 1) = -2; summary(0, 0, 1, 1) = -2;
        summary(0, 1, 1, 1) = 0; announce(1, 1, 1, 2); tick(3);
        routeLinkCount(0, 1) = 1; routeLink(0, 1, 0) = 1; summary(0, 0, 0, 1) = 9
        """);
    check(
        "announcements of a router that is not reached are of no use",
        CHAIN,
        """
        tick(4); routeKind(0, 5) = 1; setRouter(2, false); tick(2); databaseSize(0, 0) = 3;
        routeKind(0, 5) = 0; isLocal(0, 5) = false; routeLinkCount(0, 5) = 0
        """);
  }

  private static void routesBetweenAreas() {
    check(
        "by summaries",
        THREE_AREAS,
        """
        tick(9); routeKind(0, 9) = 1; routeKind(1, 9) = 1; routeCost(1, 9) = 6;
        routeKind(2, 9) = 2; routeCost(2, 9) = 8; routeKind(3, 9) = 2; routeCost(3, 9) = 12;
        routeLink(3, 9, 0) = 2; isLocal(2, 9) = false; trace(3, 9) = 3
        """);
    check(
        "inside an area goes before between areas, whatever the costs",
        THREE_AREAS,
        """
        announce(3, 2, 9, 1000); tick(9); routeKind(3, 9) = 1; routeCost(3, 9) = 1000;
        routeKind(2, 9) = 1; routeCost(2, 9) = 1004; routeCost(1, 9) = 6; routeKind(1, 9) = 1;
        summary(2, 0, 2, 9) = 1004; summary(2, 2, 2, 9) = -2
        """);
    check(
        "a border router asks area 0 alone, another router all its areas",
        """
        addRouter(); addRouter(); addRouter(); addRouter();
        addLink(0, 1, 0, 5, 5) = 0; addLink(0, 2, 1, 1, 1) = 1; addLink(1, 2, 1, 1, 1) = 2;
        addLink(0, 3, 0, 1, 1) = 3; announce(3, 0, 4, 2); tick(9);
        routeKind(2, 4) = 2; routeCost(2, 4) = 4; routeLinkCount(2, 4) = 1;
        routeCost(1, 4) = 8; setLink(0, false); tick(9); routeKind(1, 4) = 0;
        summary(1, 1, 0, 4) = 3; routeCost(2, 4) = 4
        """);
    check(
        "equal candidates of two border routers",
        """
        addRouter(); addRouter(); addRouter(); addRouter();
        addLink(0, 1, 1, 1, 1) = 0; addLink(0, 2, 1, 1, 1) = 1; addLink(1, 3, 0, 2, 2) = 2;
        addLink(2, 3, 0, 2, 2) = 3; announce(3, 0, 15, 0); tick(9); routeKind(0, 15) = 2;
        routeCost(0, 15) = 3; routeLinkCount(0, 15) = 2; routeLink(0, 15, 0) = 0;
        routeLink(0, 15, 1) = 1; setMetric(3, 0, 1); tick(5); routeCost(0, 15) = 2;
        routeLinkCount(0, 15) = 1; routeLink(0, 15, 0) = 1
        """);
    check(
        "a router of two areas without area 0 uses the summaries of both and tells nothing",
        """
        addRouter(); addRouter(); addRouter(); addRouter();
        addLink(0, 1, 1, 4, 4) = 0; addLink(0, 2, 2, 3, 3) = 1; addLink(1, 3, 0, 1, 1) = 2;
        addLink(2, 3, 0, 2, 2) = 3; announce(3, 0, 6, 9); announce(0, 1, 7, 0); tick(9);
        isBorder(0) = false; routeKind(0, 6) = 2; routeCost(0, 6) = 14; routeLinkCount(0, 6) = 2;
        databaseSize(0, 1) = 3; summary(0, 2, 0, 7) = -2; routeCost(2, 7) = 7
        """);
  }

  private static void routesAreTold() {
    check(
        "promise 25",
        THREE_AREAS,
        """
        routeKind(0, 9) = 0; tick(9); routeKind(0, 9) = 1; routeKind(3, 9) = 2;
        routeKind(3, 8) = 0; routeKind(4, 9) = throws IndexOutOfBoundsException;
        routeKind(-1, 9) = throws IndexOutOfBoundsException;
        routeKind(0, 16) = throws IndexOutOfBoundsException;
        routeKind(0, -1) = throws IndexOutOfBoundsException;
        setRouter(3, false); routeKind(3, 9) = 0; setRouter(3, true); routeKind(3, 9) = 0
        """);
    check(
        "promise 26",
        CHAIN,
        """
        routeCost(2, 5) = throws NoSuchElementException; tick(1); routeCost(2, 5) = 3;
        routeCost(0, 5) = throws NoSuchElementException; tick(3); routeCost(0, 5) = 43;
        routeCost(0, 4) = throws NoSuchElementException;
        routeCost(3, 5) = throws IndexOutOfBoundsException;
        routeCost(-1, 5) = throws IndexOutOfBoundsException;
        routeCost(0, 16) = throws IndexOutOfBoundsException;
        routeCost(0, -1) = throws IndexOutOfBoundsException;
        setRouter(0, false); routeCost(0, 5) = throws NoSuchElementException
        """);
    check(
        "promise 27",
        CHAIN,
        """
        isLocal(2, 5) = false; tick(1); isLocal(2, 5) = true; tick(3); isLocal(0, 5) = false;
        isLocal(2, 4) = false; isLocal(3, 5) = throws IndexOutOfBoundsException;
        isLocal(-1, 5) = throws IndexOutOfBoundsException;
        isLocal(0, 16) = throws IndexOutOfBoundsException;
        isLocal(0, -1) = throws IndexOutOfBoundsException;
        setRouter(2, false); isLocal(2, 5) = false
        """);
    check(
        "promises 28 and 29",
        CHAIN,
        """
        addLink(0, 2, 0, 40, 40); routeLinkCount(0, 5) = 0; tick(4); routeLinkCount(0, 5) = 2;
        routeLink(0, 5, 0) = 0; routeLink(0, 5, 1) = 2;
        routeLink(0, 5, 2) = throws NoSuchElementException;
        routeLink(0, 5, -1) = throws NoSuchElementException; routeLinkCount(2, 5) = 0;
        routeLink(2, 5, 0) = throws NoSuchElementException; routeLinkCount(0, 4) = 0;
        routeLink(0, 4, 0) = throws NoSuchElementException;
        routeLinkCount(3, 5) = throws IndexOutOfBoundsException;
        routeLinkCount(-1, 5) = throws IndexOutOfBoundsException;
        routeLinkCount(0, 16) = throws IndexOutOfBoundsException;
        routeLinkCount(0, -1) = throws IndexOutOfBoundsException;
        routeLink(3, 5, 0) = throws IndexOutOfBoundsException;
        routeLink(-1, 5, 9) = throws IndexOutOfBoundsException;
        routeLink(0, 16, 9) = throws IndexOutOfBoundsException;
        routeLink(0, -1, -1) = throws IndexOutOfBoundsException;
        setRouter(0, false); routeLinkCount(0, 5) = 0;
        routeLink(0, 5, 0) = throws NoSuchElementException
        """);
  }

  private static void summariesAreMade() {
    check(
        "not in the area of the route, nor between areas into area 0",
        THREE_AREAS,
        """
        tick(9); summary(1, 1, 1, 9) = -2; summary(1, 0, 1, 9) = 6; summary(2, 0, 2, 9) = -2;
        summary(2, 2, 2, 9) = 8; announce(2, 0, 3, 1); tick(9); summary(1, 1, 1, 3) = 3;
        summary(2, 2, 2, 3) = 1; summary(1, 0, 1, 3) = -2; summary(1, 0, 2, 3) = -2
        """);
    check(
        "a changed cost is told anew, an unchanged one is not",
        THREE_AREAS,
        """
        tick(9); announce(0, 1, 9, 7) = 5; tick(1); inFlight() = 1; summary(1, 0, 1, 9) = 6;
        tick(1) = 1; inFlight() = 1; summary(1, 0, 1, 9) = 8; tick(1) = 1; inFlight() = 1;
        summary(2, 2, 2, 9) = 10; tick(1) = 1; inFlight() = 0; routeCost(3, 9) = 14;
        announce(1, 1, 2, 0); tick(1); inFlight() = 2; summary(1, 0, 1, 2) = 0
        """);
    check(
        "a router that becomes a border router begins to tell",
        PAIR,
        """
        announce(0, 0, 1, 4); tick(3); addRouter() = 2; addLink(1, 2, 3, 6, 6) = 1;
        summary(1, 3, 1, 1) = -2; tick(1); summary(1, 3, 1, 1) = 24; tick(2);
        routeKind(2, 1) = 2; routeCost(2, 1) = 30
        """);
  }

  private static void changedRoutesAreCounted() {
    check(
        "promise 30",
        CHAIN,
        """
        changedRoutes(0) = 0; announce(1, 0, 6, 0); announce(2, 0, 0, 0);
        announce(2, 0, 15, 0); tick(1); changedRoutes(0) = 0; changedRoutes(1) = 1;
        changedRoutes(2) = 3; tick(1); changedRoutes(0) = 1; changedRoutes(1) = 3; tick(1);
        changedRoutes(0) = 3; changedRoutes(1) = 0; tick(1); changedRoutes(0) = 0;
        setMetric(0, 0, 11); changedRoutes(0) = 0; tick(1); changedRoutes(0) = 4; tick(2);
        changedRoutes(0) = 0; changedRoutes(3) = throws IndexOutOfBoundsException;
        changedRoutes(-1) = throws IndexOutOfBoundsException
        """);
    check(
        "promise 30: nothing known is no change",
        PAIR,
        "tick(1); changedRoutes(0) = 0; changedRoutes(1) = 0; tick(4); changedRoutes(0) = 0");
    check(
        "promise 30: links alone, or local alone",
        PAIR,
        """
        announce(1, 0, 2, 5); tick(4); addLink(0, 1, 0, 10, 10); tick(2);
        routeLinkCount(0, 2) = 2; changedRoutes(0) = 1; announce(0, 0, 2, 15); tick(1);
        changedRoutes(0) = 1; isLocal(0, 2) = true; tick(1); changedRoutes(0) = 0
        """);
    check(
        "promise 30: routers that went down or came up",
        PAIR,
        """
        announce(1, 0, 2, 5); tick(4); setRouter(1, false); tick(1); changedRoutes(0) = 1;
        changedRoutes(1) = 0; tick(1); changedRoutes(0) = 0; setRouter(1, true);
        changedRoutes(1) = 0; tick(1); changedRoutes(1) = 1; setRouter(1, false);
        changedRoutes(1) = 0; setRouter(1, true); changedRoutes(1) = 0; tick(1);
        changedRoutes(1) = 1; addRouter() = 2; changedRoutes(2) = 0
        """);
  }

  private static void packetsAreTraced() {
    check(
        "promises 31 and 32",
        CHAIN,
        """
        trace(0, 5) = -1; tracedRouter(0) = 0; tracedRouter(1) = throws NoSuchElementException;
        tick(5); trace(0, 5) = 2; tracedRouter(0) = 0; tracedRouter(1) = 1; tracedRouter(2) = 2;
        tracedRouter(3) = throws NoSuchElementException;
        tracedRouter(-1) = throws NoSuchElementException;
        trace(3, 5) = throws IndexOutOfBoundsException;
        trace(-1, 5) = throws IndexOutOfBoundsException;
        trace(0, 16) = throws IndexOutOfBoundsException;
        trace(0, -1) = throws IndexOutOfBoundsException; tracedRouter(2) = 2;
        trace(2, 5) = 0; tracedRouter(0) = 2; tracedRouter(1) = throws NoSuchElementException;
        trace(1, 4) = -1; tracedRouter(0) = 1; tracedRouter(1) = throws NoSuchElementException;
        setLink(1, false); trace(0, 5) = -2; tracedRouter(1) = 1;
        tracedRouter(2) = throws NoSuchElementException; setLink(1, true); setRouter(0, false);
        trace(0, 5) = -1; tracedRouter(0) = 0; tracedRouter(1) = throws NoSuchElementException;
        setRouter(1, false); trace(2, 5) = 0
        """);
    check(
        "promise 31: the link with the smallest number",
        PAIR,
        """
        addRouter() = 2; addLink(0, 2, 0, 5, 5) = 1; addLink(2, 1, 0, 5, 5) = 2;
        announce(1, 0, 0, 0); tick(5); routeLinkCount(0, 0) = 2; trace(0, 0) = 1;
        setLink(0, false); trace(0, 0) = -2; tick(1); trace(0, 0) = 2; tracedRouter(1) = 2
        """);
    check(
        "promise 31: dropped after 32 links",
        CHAIN,
        """
        addLink(0, 2, 0, 100, 100) = 2; tick(5); trace(0, 5) = 2; setLink(1, false); tick(1);
        routeLink(0, 5, 0) = 0; routeLink(1, 5, 0) = 0; trace(0, 5) = -3;
        tracedRouter(0) = 0; tracedRouter(31) = 1; tracedRouter(32) = 0;
        tracedRouter(33) = throws NoSuchElementException; trace(1, 5) = -3;
        tracedRouter(32) = 1; tick(1); trace(1, 5) = 2
        """);
    check(
        "promise 31: a route that is lost on the way",
        CHAIN,
        """
        tick(5); withdraw(2, 0, 5); tick(1); routeKind(2, 5) = 0; routeKind(0, 5) = 1;
        trace(0, 5) = -1; tracedRouter(2) = 2
        """);
  }

  private static void digestIsComputed() {
    // clock, inFlight, lost, two routers up, then of each router its size and two sequences
    long start = digestOf(19, 0, 0, 0, 1, 1, 0, 0, 0, 0, 0, 0);
    check("promise 33: before the first tick", PAIR, "digest() = " + digestOf(start, new int[32]));
    // Router 0 has a route to network 3: kind 1, cost 17, one link.
    long known = digestOf(19, 2, 0, 0, 1, 1, 2, 1, 1, 2, 1, 1);
    known = digestOf(known, 0, 0, 0, 1, 17, 1, 0, 0, 0, 0, 0, 0, 0, 0, 0, 0, 0, 0);
    // The route of router 1 is local: kind 1, cost 7, no link.
    long up = digestOf(known, 0, 0, 0, 1, 7, 0, 0, 0, 0, 0, 0, 0, 0, 0, 0, 0, 0, 0);
    check(
        "promise 33: routes",
        PAIR,
        "announce(1, 0, 3, 7); tick(2) = 2; digest() = " + up);
    long down = digestOf(19, 1, 2, 0, 1, 0, 1, 1, 0, 0, 0, 0);
    check(
        "promise 33: a router that is down, two messages in flight",
        PAIR,
        "tick(1); setRouter(1, false); digest() = " + digestOf(down, new int[32]));
    check(
        "promise 33: lost messages",
        PAIR,
        "tick(1); setRouter(1, false); tick(1); digest() = "
            + digestOf(digestOf(19, 2, 0, 2, 1, 0, 1, 2, 0, 0, 0, 0), new int[32]));
    // Routers 0 and 1 stand in areas 1 and 3; router 2 in none.
    long areas = digestOf(19, 0, 0, 0, 1, 1, 1, 0, 0, 0, 0, 0, 0, 0, 0, 0, 0, 0, 0, 0, 0, 0, 0);
    check(
        "promise 33: several areas",
        "addRouter(); addRouter(); addRouter(); addLink(0, 1, 3, 1, 1); addLink(0, 1, 1, 1, 1);",
        "digest() = " + digestOf(areas, new int[48]));
  }
}
