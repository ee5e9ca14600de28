/**
 * The sentences of the document's description that name a boundary case, in their order, each with
 * a script or more. What each method refuses is told by RefusalTest.
 */
public final class SentenceTest extends Suite {
  /** Routers 0 to 15 in a row in area 2; all metrics 1000; network 15 at router 15, cost 1000. */
  private static final String LONG_ROW =
      times(16, "addRouter()") + row() + "announce(15, 2, 15, 1000);";

  /** Router 0 in the middle of 1 to 4 by links 0 to 3; link 4 joins 1 and 2. All in area 3. */
  private static final String STAR =
      times(5, "addRouter()")
          + """
          addLink(0, 1, 3, 1, 1); addLink(2, 0, 3, 1, 1); addLink(0, 3, 3, 1, 1);
          addLink(4, 0, 3, 1, 1); addLink(1, 2, 3, 1, 1);
          """;

  private SentenceTest() {}

  public static void main(String[] args) {
    routersAndLinks();
    whatIsUp();
    attachment();
    announcements();
    contents();
    newer();
    knowledge();
    originating();
    arrival();
    order();
    removal();
    losses();
    deliveryToTheOriginator();
    deliveryToAnother();
    newLinks();
    bouncesThatAreNone();
    ownRouterAdvertisements();
    ownSummaries();
    connections();
    distances();
    routesInside();
    routesBetween();
    wantedCosts();
    down();
    sinceTheLatestTick();
    changedRoutes();
    packets();
    checksum();
    finish();
  }

  private static String row() {
    StringBuilder links = new StringBuilder();
    for (int i = 0; i < 15; i++) {
      links.append("addLink(").append(i).append(',').append(i + 1).append(",2,1000,1000);");
    }
    return links.toString();
  }

  // ---- topology

  private static void routersAndLinks() {
    check(
        "at most 16 can exist: the sixteenth can do all, the seventeenth is not there",
        times(15, "addRouter()"),
        """
        addRouter() = 15; addRouter() = throws IllegalStateException; routerCount() = 16;
        setRouter(16, true) = throws IndexOutOfBoundsException;
        addLink(15, 14, 3, 4, 5) = 0; announce(15, 3, 15, 6) = -1; tick(2) = 2;
        distance(14, 3, 15) = 5; routeCost(14, 15) = 11; distance(15, 3, 14) = 4
        """);
    check(
        "at most 40 can exist: the fortieth can do all, the forty-first is not there",
        "addRouter(); addRouter(); addRouter();",
        times(39, "addLink(0, 1, 0, 2, 2)"),
        """
        addLink(1, 2, 3, 7, 8) = 39; addLink(0, 2, 1, 1, 1) = throws IllegalStateException;
        linkCount() = 40; isUsable(40) = throws IndexOutOfBoundsException; isUsable(39) = true;
        databaseSize(0, 1) = throws IndexOutOfBoundsException; tick(4);
        firstLinkCount(0, 0, 1) = 39; firstLink(0, 0, 1, 38) = 38; firstLink(1, 3, 2, 0) = 39;
        distance(2, 3, 1) = 8; setLink(39, false) = true; tick(1); distance(2, 3, 1) = -1;
        setMetric(39, 1, 9) = 8
        """);
    check(
        "A link connects two different routers; several links can connect the same two",
        PAIR,
        """
        addLink(1, 1, 0, 1, 1) = throws IllegalArgumentException; linkCount() = 1;
        addLink(1, 0, 0, 20, 10) = 1; addLink(0, 1, 0, 10, 30) = 2; tick(2);
        firstLinkCount(0, 0, 1) = 3; firstLinkCount(1, 0, 0) = 2; listedLinks(0, 0, 0) = 3
        """);
    check(
        "It belongs to an area, 0 to 3",
        PAIR,
        """
        addLink(0, 1, 1, 3, 3) = 1; addLink(0, 1, 2, 4, 4) = 2; addLink(0, 1, 3, 5, 5) = 3;
        addLink(0, 1, 4, 1, 1) = throws IllegalArgumentException;
        addLink(0, 1, -1, 1, 1) = throws IllegalArgumentException; tick(2);
        distance(0, 0, 1) = 10; distance(0, 1, 1) = 3; distance(0, 2, 1) = 4;
        distance(0, 3, 1) = 5; distance(0, 4, 1) = throws IndexOutOfBoundsException
        """);
    check(
        "a metric, 1 to 1000, for each end: the cost of sending from this end",
        PAIR,
        """
        addLink(0, 1, 1, 1, 1000) = 1; addLink(0, 1, 2, 1000, 1) = 2;
        addLink(0, 1, 0, 0, 1) = throws IllegalArgumentException;
        addLink(0, 1, 0, 1, 0) = throws IllegalArgumentException;
        addLink(0, 1, 0, 1001, 1) = throws IllegalArgumentException;
        addLink(0, 1, 0, 1, 1001) = throws IllegalArgumentException; tick(2);
        distance(0, 1, 1) = 1; distance(1, 1, 0) = 1000; distance(0, 2, 1) = 1000;
        distance(1, 2, 0) = 1; setMetric(0, 0, 1) = 10; setMetric(0, 1, 1000) = 20; tick(1);
        distance(0, 0, 1) = 1; distance(1, 0, 0) = 1000;
        setMetric(0, 0, 0) = throws IllegalArgumentException;
        setMetric(0, 1, 1001) = throws IllegalArgumentException; tick(1);
        distance(0, 0, 1) = 1; distance(1, 0, 0) = 1000
        """);
  }

  private static void whatIsUp() {
    check(
        "A new link is up, and a new router is up",
        """
        addRouter() = 0; setRouter(0, false) = true; addRouter() = 1; setRouter(1, true) = true;
        addLink(0, 1, 0, 1, 1) = 0; isUsable(0) = false; setLink(0, true) = true;
        setRouter(0, true) = false; isUsable(0) = true
        """);
    check(
        "A link is usable if it is up and both of its routers are up",
        PAIR,
        """
        isUsable(0) = true; setLink(0, false); isUsable(0) = false; setRouter(0, false);
        isUsable(0) = false; setRouter(1, false); isUsable(0) = false; setLink(0, true);
        isUsable(0) = false; setRouter(0, true); isUsable(0) = false; setRouter(0, false);
        setRouter(1, true); isUsable(0) = false; setLink(0, false); isUsable(0) = false;
        setRouter(0, true); isUsable(0) = false; setLink(0, true); isUsable(0) = true
        """);
  }

  private static void attachment() {
    check(
        "attached to an area if it is an end of a link of this area, whether this is up or not",
        """
        addRouter(); addRouter(); addRouter(); setRouter(0, false);
        addLink(0, 1, 3, 1, 1) = 0; setLink(0, false) = true; announce(0, 3, 1, 5) = -1;
        databaseSize(0, 3) = 0; databaseSize(1, 3) = 0; listedLinks(1, 3, 1) = -1; tick(1) = 0;
        databaseSize(0, 3) = 0; databaseSize(1, 3) = 1; sequence(1, 3, 1) = 1;
        listedLinks(1, 3, 1) = 0; distance(1, 3, 1) = 0; withdraw(0, 3, 1) = 5;
        databaseSize(2, 3) = throws IndexOutOfBoundsException;
        databaseSize(1, 0) = throws IndexOutOfBoundsException
        """);
    check(
        "a border router if it is attached to area 0 and to at least one other area",
        PAIR,
        """
        isBorder(0) = false; addLink(0, 1, 0, 1, 1); isBorder(0) = false; addRouter() = 2;
        isBorder(2) = false; addLink(0, 2, 3, 1, 1) = 2; isBorder(0) = true; isBorder(1) = false;
        isBorder(2) = false; addLink(1, 2, 1, 1, 1) = 3; isBorder(1) = true; isBorder(2) = false;
        addRouter() = 3; addLink(2, 3, 2, 1, 1) = 4; isBorder(2) = false; isBorder(3) = false;
        addLink(3, 0, 0, 1, 1) = 5; isBorder(3) = true; setLink(5, false); setRouter(3, false);
        isBorder(3) = true; isBorder(2) = false
        """);
  }

  private static void announcements() {
    check(
        "16 networks, numbered from 0; with a cost from 0 to 1000",
        PAIR,
        """
        announce(0, 0, 0, 0) = -1; announce(0, 0, 15, 1000) = -1;
        announce(0, 0, 16, 1) = throws IndexOutOfBoundsException;
        announce(0, 0, -1, 1) = throws IndexOutOfBoundsException;
        announce(0, 0, 0, 1001) = throws IllegalArgumentException;
        announce(0, 0, 15, -1) = throws IllegalArgumentException; tick(2);
        routeCost(0, 0) = 0; routeCost(0, 15) = 1000; routeCost(1, 0) = 20;
        routeCost(1, 15) = 1020; routeKind(1, 14) = 0; routeKind(1, 1) = 0;
        withdraw(0, 0, 0) = 0; withdraw(0, 0, 15) = 1000
        """);
    check(
        "in an area to which it is attached: each area has its own announcements",
        PAIR,
        """
        announce(0, 1, 2, 5) = throws IllegalStateException; addLink(0, 1, 1, 1, 1);
        announce(0, 1, 2, 5) = -1; announce(0, 0, 2, 6) = -1; announce(1, 0, 2, 7) = -1;
        announce(0, 1, 2, 8) = 5; withdraw(0, 0, 2) = 6;
        withdraw(0, 0, 2) = throws NoSuchElementException; withdraw(0, 1, 2) = 8;
        withdraw(1, 1, 2) = throws NoSuchElementException; withdraw(1, 0, 2) = 7
        """);
  }

  // ---- advertisements

  private static void contents() {
    check(
        "the usable links of the originator in this area, with the metric of its own end",
        PAIR,
        """
        addLink(0, 1, 3, 5, 6) = 1; announce(0, 3, 2, 2); tick(3); sequence(0, 0, 0) = 1;
        sequence(0, 3, 0) = 1; listedLinks(0, 0, 0) = 1; setMetric(0, 1, 21) = 20; tick(2);
        sequence(0, 0, 0) = 1; sequence(0, 0, 1) = 2; sequence(0, 3, 1) = 1;
        announce(0, 3, 2, 3) = 2; tick(1); sequence(0, 3, 0) = 2; sequence(0, 0, 0) = 1;
        announce(0, 3, 4, 0) = -1; tick(1); sequence(0, 3, 0) = 3; withdraw(0, 3, 4) = 0;
        tick(1); sequence(0, 3, 0) = 4; setLink(1, false); tick(1); sequence(0, 3, 0) = 5;
        listedLinks(0, 3, 0) = 0; listedLinks(0, 0, 0) = 1; sequence(0, 0, 0) = 1
        """);
    check(
        "contents that are at the tick as they were are not different",
        PAIR,
        """
        announce(0, 0, 3, 4); tick(3); withdraw(0, 0, 3) = 4; announce(0, 0, 3, 4) = -1;
        announce(0, 0, 3, 5) = 4; announce(0, 0, 3, 4) = 5; announce(0, 0, 7, 0) = -1;
        withdraw(0, 0, 7) = 0; setMetric(0, 0, 11); setMetric(0, 0, 10); setMetric(0, 0, 10) = 10;
        tick(1) = 0; inFlight() = 0; sequence(0, 0, 0) = 1
        """);
  }

  private static void newer() {
    check(
        "if the sequence numbers are equal, the one with the later birth",
        CHAIN,
        """
        tick(4); inFlight() = 0; agree(0, 2, 0) = true; announce(2, 0, 5, 8) = 3;
        setRouter(2, false); setRouter(2, true); tick(1) = 0; inFlight() = 4;
        sequence(2, 0, 2) = 1; sequence(1, 0, 2) = 1; agree(1, 2, 0) = false; tick(1) = 4;
        inFlight() = 2; agree(1, 2, 0) = true; agree(0, 1, 0) = false; routeCost(1, 5) = 38;
        routeCost(0, 5) = 43; tick(1) = 2; inFlight() = 0; agree(0, 2, 0) = true;
        routeCost(0, 5) = 48; sequence(0, 0, 2) = 1
        """);
    check(
        "the one with the greater sequence number is newer, whatever the births",
        PAIR,
        """
        announce(1, 0, 5, 1); tick(1); announce(1, 0, 5, 2); tick(2); sequence(0, 0, 1) = 2;
        setLink(0, false); setRouter(1, false); announce(1, 0, 5, 3); setRouter(1, true); tick(1);
        sequence(1, 0, 1) = 1; sequence(0, 0, 1) = 2; setLink(0, true); tick(1);
        sequence(1, 0, 1) = 2; sequence(0, 0, 1) = 2; inFlight() = 5; tick(1) = 5;
        sequence(0, 0, 1) = 2; inFlight() = 2; tick(1) = 2; inFlight() = 1; tick(1) = 1;
        inFlight() = 0; sequence(1, 0, 1) = 2; routeCost(0, 5) = 13; agree(0, 1, 0) = true
        """);
  }

  private static void knowledge() {
    check(
        "If a router goes down, its databases and all that it knows are lost",
        """
        addRouter(); addRouter(); addLink(0, 1, 1, 1, 1) = 0; addLink(0, 1, 2, 1, 1) = 1;
        announce(1, 1, 0, 0); tick(1); announce(1, 1, 0, 1); tick(1); announce(1, 2, 0, 2);
        tick(3); sequence(1, 1, 1) = 2; sequence(1, 2, 1) = 2; databaseSize(1, 2) = 2;
        setLink(0, false); setLink(1, false); setRouter(1, false); databaseSize(1, 1) = 0;
        databaseSize(1, 2) = 0; setRouter(1, true); databaseSize(1, 1) = 0;
        databaseSize(1, 2) = 0; tick(1); databaseSize(1, 1) = 1; databaseSize(1, 2) = 1;
        sequence(1, 1, 1) = 1; sequence(1, 2, 1) = 1; sequence(1, 1, 0) = 0;
        sequence(0, 2, 1) = 2; databaseSize(0, 2) = 2
        """);
    check(
        "what the other routers know is not lost: their router advertisements",
        LONG_ROW,
        """
        tick(3); setRouter(15, false); announce(0, 2, 3, 3); announce(14, 2, 3, 3); tick(1);
        sequence(0, 2, 0) = 2; sequence(14, 2, 14) = 2; setRouter(0, false);
        announce(1, 2, 3, 3); tick(1); sequence(1, 2, 1) = 2
        """);
    check(
        "what the other routers know is not lost: their summaries",
        THREE_AREAS,
        """
        announce(0, 1, 0, 5); announce(0, 1, 15, 5); addLink(1, 3, 3, 1, 1); tick(9);
        summary(3, 3, 1, 0) = 6; announce(0, 1, 0, 4); announce(0, 1, 15, 4); tick(5);
        summary(3, 3, 1, 15) = 5; setRouter(2, false); setRouter(0, false); tick(1);
        summary(1, 3, 1, 0) = -1; summary(1, 3, 1, 15) = -1; summary(3, 3, 1, 0) = 5; tick(1);
        summary(3, 3, 1, 0) = -1; summary(3, 3, 1, 15) = -1
        """);
    check("the greatest sequence number that it has seen, if it comes first", formerLives(1));
    check("the greatest sequence number that it has seen, if it comes last", formerLives(0));
  }

  /**
   * Router 2 comes back to neighbours 0 and 1, which hold advertisements of its former life: that
   * which was cut off has the second, the other one the fourth.
   */
  private static String formerLives(int cut) {
    return """
        addRouter(); addRouter(); addRouter();
        addLink(0, 2, 1, 1, 1) = 0; addLink(1, 2, 1, 1, 1) = 1; tick(3); announce(2, 1, 0, 0);
        tick(3); setLink(CUT, false); tick(1); announce(2, 1, 1, 0); tick(3);
        sequence(CUT, 1, 2) = 2; sequence(OTHER, 1, 2) = 4; setRouter(2, false);
        setLink(CUT, true); setRouter(2, true); tick(1); sequence(2, 1, 2) = 1; tick(1);
        sequence(2, 1, 2) = 5; tick(1); sequence(0, 1, 2) = 5; sequence(1, 1, 2) = 5; tick(2);
        sequence(2, 1, 2) = 5; agree(0, 2, 1) = true; agree(1, 2, 1) = true
        """
        .replace("CUT", String.valueOf(cut))
        .replace("OTHER", String.valueOf(1 - cut));
  }

  private static void originating() {
    check(
        "sends it over each of its usable links of this area",
        STAR,
        """
        setLink(2, false); setRouter(4, false); tick(6); inFlight() = 0; announce(0, 3, 1, 1);
        tick(1); inFlight() = 2; tick(1) = 2; inFlight() = 2; tick(1) = 2; inFlight() = 0;
        sequence(2, 3, 0) = 2; sequence(3, 3, 0) = 0
        """);
    check(
        "in ascending order: of two links to the same router the first one brings the news",
        PAIR,
        """
        addLink(0, 1, 0, 1, 1) = 1; tick(1) = 0; inFlight() = 4; tick(1) = 4; inFlight() = 2;
        setLink(1, false); tick(1) = 0; lost() = 2
        """);
    check(
        "in ascending order: the second one carries it on",
        PAIR,
        """
        addLink(0, 1, 0, 1, 1) = 1; tick(2) = 4; inFlight() = 2; setLink(0, false); tick(1) = 2;
        lost() = 0
        """);
    check(
        "The key does not have to be renewed any more",
        STAR,
        """
        tick(4); setRouter(0, false); setRouter(0, true); tick(1); sequence(0, 3, 0) = 1; tick(1);
        sequence(0, 3, 0) = 1; setLink(0, false); tick(4); sequence(0, 3, 0) = 2; inFlight() = 0;
        setRouter(0, false); setRouter(0, true); tick(2); sequence(0, 3, 0) = 3; tick(15);
        inFlight() = 0; sequence(0, 3, 0) = 3
        """);
  }

  // ---- ticks

  private static void arrival() {
    check(
        "Messages that are sent in a tick arrive in the next one",
        LONG_ROW,
        """
        clock() = 0; inFlight() = 0; tick(1) = 0; inFlight() = 30; databaseSize(0, 2) = 1;
        tick(1) = 30; databaseSize(0, 2) = 2; databaseSize(7, 2) = 3; inFlight() = 28; tick(13);
        databaseSize(0, 2) = 15; tick(1) = 2; databaseSize(0, 2) = 16; inFlight() = 0;
        agree(0, 15, 2) = true; lost() = 0; clock() = 16
        """);
  }

  /** Of two equal messages the first one is taken; the link that it did not use carries it on. */
  private static void order() {
    check(
        "taken in the order in which they were sent, whatever the routers' numbers",
        """
        addRouter(); addRouter(); addRouter(); addRouter();
        addLink(3, 1, 0, 1, 1) = 0; addLink(3, 0, 0, 1, 1) = 1; addLink(0, 2, 0, 1, 1) = 2;
        addLink(1, 2, 0, 1, 1) = 3; tick(6); inFlight() = 0; announce(3, 0, 0, 0); tick(1) = 0;
        inFlight() = 2; tick(1) = 2; inFlight() = 2; tick(1) = 2; inFlight() = 1;
        setLink(3, false); tick(1) = 1; lost() = 0
        """);
    check(
        "For each router that is up, in ascending order, whatever the links' numbers",
        """
        addRouter(); addRouter(); addRouter(); addRouter();
        addLink(1, 2, 0, 1, 1) = 0; addLink(0, 2, 0, 1, 1) = 1; addLink(0, 3, 0, 1, 1) = 2;
        addLink(1, 3, 0, 1, 1) = 3; setLink(0, false); setLink(1, false); tick(6);
        inFlight() = 0; databaseSize(2, 0) = 1; setLink(0, true); setLink(1, true); tick(1) = 0;
        inFlight() = 14; tick(1) = 14; inFlight() = 12; setLink(0, false); tick(1) = 7; lost() = 5
        """);
    check(
        "For each of its links, in ascending order",
        """
        addRouter(); addRouter(); addRouter();
        addLink(0, 2, 0, 1, 1) = 0; addLink(0, 1, 0, 1, 1) = 1; addLink(0, 1, 0, 1, 1) = 2;
        setLink(1, false); setLink(2, false); tick(6); inFlight() = 0; setLink(2, true);
        setLink(1, true); tick(1) = 0; inFlight() = 11; tick(1) = 11; inFlight() = 7;
        setLink(2, false); tick(1) = 2; lost() = 5
        """);
  }

  private static void removal() {
    check(
        "Every advertisement whose age is 60 or more is removed from all databases",
        STAR,
        """
        tick(7); setRouter(3, false); tick(53); clock() = 60; sequence(1, 3, 3) = 1;
        sequence(0, 3, 3) = 1; databaseSize(2, 3) = 5; tick(1); sequence(1, 3, 3) = 0;
        sequence(0, 3, 3) = 0; sequence(4, 3, 3) = 0; databaseSize(2, 3) = 4;
        databaseSize(0, 3) = 4; listedLinks(2, 3, 3) = -1
        """);
    check(
        "a summary goes at the age of 60, too, and its sequence number stays known",
        THREE_AREAS,
        """
        tick(10); setRouter(0, false); tick(2); clock() = 12; summary(1, 0, 1, 9) = -1;
        tick(58); clock() = 70; summary(1, 0, 1, 9) = -1; summary(2, 0, 1, 9) = -1; tick(1);
        summary(1, 0, 1, 9) = -2; summary(2, 0, 1, 9) = -2; summary(3, 2, 2, 9) = -1; tick(1);
        summary(3, 2, 2, 9) = -2; setRouter(0, true); tick(8); summary(2, 0, 1, 9) = 6;
        agree(1, 2, 0) = true; summary(3, 2, 2, 9) = 8
        """);
  }

  private static void losses() {
    check(
        "lost if its link is not usable now: the link itself",
        PAIR,
        "tick(1); setLink(0, false); tick(1) = 0; lost() = 2; tick(1); lost() = 2");
    check(
        "lost if its link is not usable now: the sender",
        CHAIN,
        "tick(1); inFlight() = 4; setRouter(0, false); tick(1) = 2; lost() = 2");
    check(
        "not lost if the link is down only in between",
        PAIR,
        """
        tick(1); setLink(0, false); setLink(0, true); tick(1) = 2; lost() = 0;
        sequence(0, 0, 1) = 1; sequence(1, 0, 0) = 1
        """);
    check(
        "not lost if the receiver, which is the sender of another one, begins anew in between",
        PAIR,
        """
        tick(1); inFlight() = 2; setRouter(0, false); setRouter(0, true); tick(1) = 2; lost() = 0;
        sequence(0, 0, 1) = 1; sequence(0, 0, 0) = 1; inFlight() = 4; tick(1) = 4;
        inFlight() = 1; tick(1) = 1; inFlight() = 0; agree(0, 1, 0) = true
        """);
    check(
        "delivered at the age of 59",
        CHAIN,
        """
        setLink(1, false) = true; tick(3); setRouter(0, false) = true; tick(55); clock() = 58;
        setLink(1, true) = false; tick(1) = 0; inFlight() = 5; tick(1) = 5; lost() = 0;
        sequence(2, 0, 0) = 1; databaseSize(2, 0) = 3; tick(1); sequence(2, 0, 0) = 0;
        sequence(1, 0, 0) = 0; databaseSize(2, 0) = 2
        """);
    check(
        "lost at the age of 60",
        CHAIN,
        """
        setLink(1, false) = true; tick(3); setRouter(0, false) = true; tick(56); clock() = 59;
        setLink(1, true) = false; tick(1) = 0; inFlight() = 5; tick(1) = 4; lost() = 1;
        sequence(2, 0, 0) = 0
        """);
  }

  private static void deliveryToTheOriginator() {
    check(
        "newer than the one that it has: it renews its router advertisement in each area",
        PAIR,
        """
        addLink(0, 1, 1, 1, 1) = 1; addLink(0, 1, 2, 1, 1) = 2; addLink(0, 1, 3, 1, 1) = 3;
        announce(1, 0, 0, 0); announce(1, 1, 0, 0); announce(1, 2, 0, 0); announce(1, 3, 0, 0);
        tick(2); announce(1, 0, 0, 1); announce(1, 1, 0, 1); announce(1, 2, 0, 1);
        announce(1, 3, 0, 1); tick(3); sequence(0, 0, 1) = 2; sequence(0, 1, 1) = 2;
        sequence(0, 2, 1) = 2; sequence(0, 3, 1) = 2; setRouter(1, false); setRouter(1, true);
        tick(1); sequence(1, 0, 1) = 1; sequence(1, 1, 1) = 1; sequence(1, 2, 1) = 1;
        sequence(1, 3, 1) = 1; tick(1); sequence(1, 0, 1) = 3; sequence(1, 1, 1) = 3;
        sequence(1, 2, 1) = 3; sequence(1, 3, 1) = 3; tick(1); sequence(0, 3, 1) = 3;
        sequence(0, 1, 1) = 3
        """);
    check(
        "an older one of its own is answered with the one that it has",
        PAIR,
        """
        tick(3); setLink(0, false); tick(1); sequence(0, 0, 0) = 2; sequence(1, 0, 0) = 1;
        setLink(0, true); tick(1); inFlight() = 6; sequence(0, 0, 0) = 3; tick(1) = 6;
        inFlight() = 2; sequence(1, 0, 0) = 3; sequence(0, 0, 1) = 3; tick(1) = 2;
        inFlight() = 0
        """);
    check(
        "or the router has none with this key: a summary with the cost that is wanted again",
        THREE_AREAS,
        """
        tick(10); inFlight() = 0; setRouter(1, false); setRouter(1, true); tick(1);
        summary(1, 0, 1, 9) = -2; summary(2, 0, 1, 9) = 6; tick(1); summary(1, 0, 1, 9) = 6;
        summary(2, 0, 1, 9) = 6; agree(1, 2, 0) = false; tick(1); agree(1, 2, 0) = true;
        summary(2, 0, 1, 9) = 6; tick(1); agree(1, 2, 0) = true
        """);
    check(
        "or the router has none with this key: a summary that is wanted no more, outside area 0",
        THREE_AREAS,
        """
        tick(10); summary(3, 2, 2, 9) = 8; setRouter(2, false); setLink(1, false);
        setRouter(2, true); tick(1); summary(2, 2, 2, 9) = -2; summary(3, 2, 2, 9) = 8; tick(1);
        summary(2, 2, 2, 9) = -1; summary(3, 2, 2, 9) = 8; routeCost(3, 9) = 12; tick(1);
        summary(3, 2, 2, 9) = -1; routeKind(3, 9) = 0; agree(2, 3, 2) = true
        """);
  }

  private static void deliveryToAnother() {
    check(
        "except the one over which it came, be there another link to the sender or not",
        CHAIN,
        """
        addLink(1, 2, 0, 30, 40) = 2; tick(8); inFlight() = 0; announce(0, 0, 0, 0); tick(1);
        inFlight() = 1; tick(1) = 1; inFlight() = 2; tick(1) = 2; inFlight() = 1; tick(1) = 1;
        inFlight() = 0; sequence(2, 0, 0) = 2
        """);
    check(
        "If both are equally new, nothing happens",
        PAIR,
        """
        tick(5); setLink(0, false); setLink(0, true); tick(1) = 0; inFlight() = 4; tick(1) = 4;
        inFlight() = 0; sequence(0, 0, 1) = 1; sequence(1, 0, 1) = 1; lost() = 0
        """);
    check(
        "if the one that the receiver has is newer, it sends that over the link of the message",
        """
        addRouter(); addRouter(); addRouter(); addRouter();
        addLink(0, 1, 1, 1, 1) = 0; addLink(1, 2, 1, 1, 1) = 1; addLink(2, 3, 1, 1, 1) = 2;
        tick(5); setLink(1, false); tick(3); announce(0, 1, 4, 0); tick(3); inFlight() = 0;
        sequence(1, 1, 0) = 2; sequence(2, 1, 0) = 1; sequence(2, 1, 1) = 1;
        setLink(1, true); tick(1) = 0; inFlight() = 12; tick(1) = 12; inFlight() = 8; tick(1) = 8;
        inFlight() = 0; agree(0, 3, 1) = true; sequence(3, 1, 0) = 2
        """);
  }

  private static void newLinks() {
    check(
        "usable now, but did not exist at the end of the tick before",
        PAIR,
        """
        tick(5); inFlight() = 0; addLink(0, 1, 0, 1, 1) = 1; tick(1) = 0; inFlight() = 8;
        addRouter() = 2; addLink(1, 2, 3, 1, 1) = 2; tick(3); databaseSize(2, 3) = 2
        """);
    check(
        "it sends all advertisements of its database for the area of this link",
        THREE_AREAS,
        """
        tick(9); inFlight() = 0; databaseSize(2, 0) = 3; databaseSize(1, 0) = 3;
        setLink(1, false); setLink(1, true); tick(1); inFlight() = 6; tick(1) = 6;
        inFlight() = 0; databaseSize(3, 2) = 3; setLink(2, false); setLink(2, true); tick(1);
        inFlight() = 6; setLink(0, false); setLink(0, true); tick(1) = 6; inFlight() = 4
        """);
    check(
        "If a router was down and up again, each of its links counts as not usable",
        STAR,
        """
        tick(6); inFlight() = 0; databaseSize(3, 3) = 5; setRouter(0, false); setRouter(0, true);
        tick(1) = 0; inFlight() = 24; tick(1) = 24
        """);
    check(
        "If a router at the other end was down and up again",
        STAR,
        """
        tick(6); inFlight() = 0; setRouter(4, false); setRouter(4, true); tick(1) = 0;
        inFlight() = 6; sequence(0, 3, 0) = 1
        """);
    check(
        "If a link was down and up again, it alone counts as not usable",
        STAR,
        """
        tick(6); inFlight() = 0; setLink(4, false); setLink(4, true); tick(1) = 0;
        inFlight() = 10; sequence(1, 3, 1) = 1; tick(1) = 10; inFlight() = 0
        """);
    check(
        "a link that was down in a tick is new when it comes up, its routers' one, too",
        PAIR,
        """
        tick(5); setLink(0, false); setRouter(1, false); tick(1); setLink(0, true); tick(1);
        inFlight() = 0; setRouter(1, true); tick(1); inFlight() = 4; sequence(0, 0, 0) = 3;
        sequence(1, 0, 1) = 1
        """);
  }

  private static void bouncesThatAreNone() {
    check(
        "what was up and is set up has not been down",
        PAIR,
        """
        announce(1, 0, 4, 4); tick(5); setLink(0, true) = true; setRouter(0, true) = true;
        setRouter(1, true) = true; databaseSize(0, 0) = 2; distance(0, 0, 1) = 10;
        routeCost(0, 4) = 14; isLocal(1, 4) = true; agree(0, 1, 0) = true; tick(1) = 0;
        inFlight() = 0; sequence(0, 0, 0) = 1; changedRoutes(0) = 0; changedRoutes(1) = 0
        """);
    check(
        "changedRoutes stays when a router is set up that was up",
        PAIR,
        """
        announce(0, 0, 4, 4); tick(1); changedRoutes(0) = 1; setRouter(0, true) = true;
        changedRoutes(0) = 1
        """);
    check(
        "a link that is not usable at the tick is not new in it",
        PAIR,
        """
        tick(5); setLink(0, false); setLink(0, true); setLink(0, false); tick(1);
        inFlight() = 0; listedLinks(0, 0, 0) = 0; setRouter(0, false); setRouter(0, true);
        tick(1); inFlight() = 0; sequence(0, 0, 0) = 1; sequence(1, 0, 1) = 2
        """);
    check(
        "a link is new once",
        PAIR,
        """
        tick(5); setLink(0, false); setLink(0, true); tick(1); inFlight() = 4; tick(1);
        inFlight() = 0; tick(1); inFlight() = 0
        """);
  }

  private static void ownRouterAdvertisements() {
    check(
        "if it has none in its database: also without a usable link or an announcement",
        """
        addRouter(); addRouter(); addRouter(); addLink(0, 1, 2, 1, 1); setLink(0, false); tick(1);
        sequence(0, 2, 0) = 1; listedLinks(0, 2, 0) = 0; inFlight() = 0; addLink(0, 2, 3, 1, 1);
        setRouter(2, false); sequence(0, 3, 0) = 0; tick(1); sequence(0, 3, 0) = 1;
        sequence(0, 2, 0) = 1
        """);
    check(
        "or the age of that one is 30 or more: not at 29, in each area by its own age",
        PAIR,
        """
        tick(7); addLink(0, 1, 1, 1, 1); tick(23); clock() = 30; sequence(0, 0, 0) = 1; tick(1);
        sequence(0, 0, 0) = 2; sequence(0, 1, 0) = 1; tick(6); clock() = 37;
        sequence(0, 1, 0) = 1; tick(1); sequence(0, 1, 0) = 2; sequence(0, 0, 0) = 2; tick(22);
        clock() = 60; sequence(0, 0, 0) = 2; tick(1); sequence(0, 0, 0) = 3; databaseSize(0, 0) = 2
        """);
  }

  private static void ownSummaries() {
    check(
        "one whose age is 30 or more: not at 29, by its own age",
        THREE_AREAS,
        """
        tick(12); announce(0, 1, 9, 6); tick(2); clock() = 14; summary(1, 0, 1, 9) = 7; tick(6);
        announce(0, 1, 8, 1); tick(1); clock() = 21; tick(22); clock() = 43; inFlight() = 0;
        agree(1, 2, 0) = true; tick(1); inFlight() = 1; agree(1, 2, 0) = false; tick(1);
        agree(1, 2, 0) = true; summary(2, 0, 1, 9) = 7
        """);
    check(
        "one with another cost; one that is unreachable; none",
        THREE_AREAS,
        """
        tick(10); summary(1, 0, 1, 9) = 6; announce(0, 1, 9, 0) = 5; tick(2);
        summary(1, 0, 1, 9) = 1; withdraw(0, 1, 9) = 0; tick(2); summary(1, 0, 1, 9) = -1;
        announce(0, 1, 9, 1000) = -1; tick(2); summary(1, 0, 1, 9) = 1001;
        summary(1, 0, 1, 0) = -2; announce(0, 1, 0, 0); announce(0, 1, 15, 2); tick(2);
        summary(1, 0, 1, 0) = 1; summary(1, 0, 1, 15) = 3; summary(1, 0, 1, 14) = -2
        """);
    check(
        "no wanted cost: unreachable once, and nothing if it has none",
        THREE_AREAS,
        """
        tick(9); databaseSize(1, 1) = 2; databaseSize(1, 0) = 3; withdraw(0, 1, 9); tick(2);
        inFlight() = 1; summary(1, 0, 1, 9) = -1; tick(1) = 1; inFlight() = 1; tick(1) = 1;
        inFlight() = 0; tick(10); inFlight() = 0; databaseSize(1, 0) = 3; databaseSize(1, 1) = 2
        """);
    check(
        "a cost of 0 is renewed, too",
        THREE_AREAS,
        """
        announce(1, 1, 8, 1); tick(12); announce(1, 1, 8, 0) = 1; tick(1); clock() = 13;
        summary(1, 0, 1, 8) = 0; tick(5); announce(1, 1, 7, 0); tick(1); clock() = 19; tick(23);
        clock() = 42; inFlight() = 0; tick(1); inFlight() = 1; agree(1, 2, 0) = false; tick(1) = 1;
        agree(1, 2, 0) = true; inFlight() = 1; tick(1) = 1; inFlight() = 0
        """);
    check(
        "for each area to which it is attached: none in an area before it is attached to it",
        THREE_AREAS,
        """
        tick(9); addLink(1, 3, 3, 1, 1) = 3; databaseSize(1, 3) = 0; summary(1, 3, 1, 9) = -2;
        setLink(3, false); tick(1); databaseSize(1, 3) = 2; summary(1, 3, 1, 9) = 6;
        summary(1, 1, 1, 9) = -2
        """);
    check(
        "the summaries of an area go over the links of this area alone",
        """
        addRouter(); addRouter(); addRouter(); addRouter();
        addLink(0, 1, 0, 1, 1); addLink(0, 2, 1, 1, 1); addLink(0, 3, 2, 1, 1);
        announce(2, 1, 3, 7); tick(8); summary(1, 0, 0, 3) = 8; summary(3, 2, 0, 3) = 8;
        summary(2, 1, 0, 3) = -2; databaseSize(1, 0) = 3; databaseSize(3, 2) = 3;
        databaseSize(2, 1) = 2; databaseSize(0, 0) = 3; databaseSize(0, 1) = 2
        """);
  }

  // ---- distances

  private static void connections() {
    check(
        "lists l with v and m, and one of v that lists l with u: not before it has both",
        CHAIN,
        """
        tick(2); sequence(0, 0, 1) = 1; listedLinks(0, 0, 1) = 2; sequence(0, 0, 2) = 0;
        distance(0, 0, 1) = 10; distance(0, 0, 2) = -1; firstLinkCount(0, 0, 2) = 0; tick(1);
        distance(0, 0, 2) = 40
        """);
    for (int clock = 57; clock < 67; clock++) {
      check(
          "not before it has both, in whatever tick",
          CHAIN,
          "setLink(1, false); tick(" + (clock - 10) + "); tick(10); setLink(1, true); tick(2);",
          "listedLinks(0, 0, 1) = 2; sequence(0, 0, 2) = 0; distance(0, 0, 1) = 10;",
          "distance(0, 0, 2) = -1; routeKind(0, 5) = 0; tick(1); distance(0, 0, 2) = 40;",
          "routeCost(0, 5) = 43; tick(2); distance(0, 0, 2) = 40");
    }
    check(
        "it is the same link that both must list",
        PAIR,
        """
        addLink(0, 1, 0, 1, 1) = 1; tick(5); distance(0, 0, 1) = 1; setRouter(1, false); tick(2);
        setLink(1, false); distance(0, 0, 1) = -1; listedLinks(0, 0, 1) = 2; setRouter(1, true);
        tick(1); listedLinks(0, 0, 0) = 1; distance(0, 0, 1) = 10; firstLink(0, 0, 1, 0) = 0;
        firstLink(0, 0, 1, 1) = throws NoSuchElementException
        """);
    check(
        "the metric is that of the end that sends, as the database tells it",
        CHAIN,
        """
        tick(4); setMetric(1, 0, 31); setMetric(1, 1, 999); tick(1); distance(1, 0, 2) = 31;
        distance(0, 0, 2) = 40; tick(1); distance(0, 0, 2) = 41; distance(2, 0, 0) = 1019
        """);
  }

  private static void distances() {
    check(
        "the smallest sum of metrics, over fifteen links of 1000",
        LONG_ROW,
        """
        tick(16); distance(0, 2, 15) = 15000; distance(15, 2, 0) = 15000; distance(0, 2, 0) = 0;
        firstLinkCount(0, 2, 0) = 0; firstLink(0, 2, 0, 0) = throws NoSuchElementException;
        firstLink(0, 2, 15, 0) = 0; firstLinkCount(7, 2, 15) = 1; firstLink(7, 2, 15, 0) = 7;
        firstLink(7, 2, 0, 0) = 6; routeCost(0, 15) = 16000; isLocal(15, 15) = true;
        routeCost(15, 15) = 1000; distance(8, 2, 15) = 7000
        """);
    check(
        "the links with which a sequence with the smallest sum can begin",
        """
        addRouter(); addRouter(); addRouter(); addRouter(); addRouter();
        addLink(0, 1, 1, 4, 4) = 0; addLink(0, 1, 1, 4, 4) = 1; addLink(0, 1, 1, 5, 5) = 2;
        addLink(1, 2, 1, 3, 3) = 3; addLink(0, 2, 1, 7, 7) = 4; addLink(0, 2, 1, 8, 8) = 5;
        addLink(2, 3, 1, 1, 1) = 6; addLink(0, 3, 1, 9, 9) = 7; addLink(3, 4, 1, 1, 1) = 8;
        addLink(0, 4, 1, 9, 9) = 9; tick(6);
        distance(0, 1, 1) = 4; firstLinkCount(0, 1, 1) = 2; distance(0, 1, 2) = 7;
        firstLinkCount(0, 1, 2) = 3; firstLink(0, 1, 2, 0) = 0; firstLink(0, 1, 2, 1) = 1;
        firstLink(0, 1, 2, 2) = 4; firstLink(0, 1, 2, 3) = throws NoSuchElementException;
        distance(0, 1, 3) = 8; firstLinkCount(0, 1, 3) = 3; distance(0, 1, 4) = 9;
        firstLinkCount(0, 1, 4) = 4; firstLink(0, 1, 4, 3) = 9; firstLinkCount(4, 1, 0) = 2;
        firstLink(4, 1, 0, 0) = 8; firstLink(4, 1, 0, 1) = 9
        """);
    check(
        "many links can be dearer than few, and few dearer than many",
        PAIR,
        """
        addRouter(); addRouter(); addLink(0, 2, 0, 3, 3) = 1; addLink(2, 3, 0, 3, 3) = 2;
        addLink(3, 1, 0, 3, 3) = 3; tick(5); distance(0, 0, 1) = 9; firstLink(0, 0, 1, 0) = 1;
        setMetric(2, 0, 4); tick(4); distance(0, 0, 1) = 10; firstLinkCount(0, 0, 1) = 2;
        setMetric(2, 0, 5); tick(4); distance(0, 0, 1) = 10; firstLinkCount(0, 0, 1) = 1;
        firstLink(0, 0, 1, 0) = 0
        """);
  }

  // ---- routes

  private static void routesInside() {
    check(
        "no candidate: kind 0",
        PAIR,
        """
        tick(3); routeKind(0, 0) = 0; routeCost(0, 0) = throws NoSuchElementException;
        isLocal(0, 0) = false; routeLinkCount(0, 0) = 0;
        routeLink(0, 0, 0) = throws NoSuchElementException; trace(0, 0) = -1
        """);
    check(
        "equal candidates of two routers, and of one router in two areas",
        """
        addRouter(); addRouter(); addRouter();
        addLink(0, 1, 1, 4, 4) = 0; addLink(0, 2, 1, 5, 5) = 1; addLink(0, 2, 2, 2, 2) = 2;
        announce(1, 1, 6, 5); announce(2, 1, 6, 4); announce(2, 2, 6, 7); tick(4);
        routeKind(0, 6) = 1; routeCost(0, 6) = 9; routeLinkCount(0, 6) = 3; isLocal(0, 6) = false;
        routeLink(0, 6, 0) = 0; routeLink(0, 6, 2) = 2; announce(2, 2, 6, 6); tick(2);
        routeCost(0, 6) = 8; routeLinkCount(0, 6) = 1; routeLink(0, 6, 0) = 2;
        announce(0, 2, 6, 8); tick(1); isLocal(0, 6) = true; routeLinkCount(0, 6) = 1;
        routeCost(0, 6) = 8; announce(0, 1, 6, 7); tick(1); routeCost(0, 6) = 7;
        routeLinkCount(0, 6) = 0; isLocal(0, 6) = true; announce(0, 1, 6, 9); withdraw(0, 2, 6);
        tick(1); isLocal(0, 6) = false; routeCost(0, 6) = 8; routeLinkCount(0, 6) = 1
        """);
    check(
        "to which r has a distance: an announcement without a way is no candidate",
        CHAIN,
        """
        tick(4); announce(2, 0, 5, 0); setLink(1, false); tick(1); sequence(1, 0, 2) = 1;
        routeKind(1, 5) = 0; routeKind(0, 5) = 1; routeCost(0, 5) = 43; tick(1);
        routeKind(0, 5) = 0; routeCost(2, 5) = 0; isLocal(2, 5) = true
        """);
  }

  private static void routesBetween() {
    check(
        "only if there is no candidate inside an area, be that dearer",
        THREE_AREAS,
        """
        tick(9); routeKind(3, 9) = 2; routeCost(3, 9) = 12; announce(3, 2, 9, 1000); tick(1);
        routeKind(3, 9) = 1; routeCost(3, 9) = 1000; isLocal(3, 9) = true; withdraw(3, 2, 9);
        tick(1); routeKind(3, 9) = 2; isLocal(3, 9) = false; routeCost(3, 9) = 12
        """);
    check(
        "whose originator u is not r: its own summary is no candidate",
        THREE_AREAS,
        """
        tick(9); withdraw(0, 1, 9) = 5; tick(2); routeKind(1, 9) = 0; isLocal(1, 9) = false;
        changedRoutes(1) = 1; routeKind(2, 9) = 2; tick(1); routeKind(2, 9) = 0
        """);
    check(
        "a router to which r has a distance in this area",
        THREE_AREAS,
        """
        tick(9); setLink(1, false); tick(1); summary(2, 0, 1, 9) = 6; routeKind(2, 9) = 0;
        routeKind(3, 9) = 2; summary(2, 2, 2, 9) = -1; tick(1); routeKind(3, 9) = 0
        """);
    check(
        "each summary with a cost: unreachable is none, 0 is one",
        THREE_AREAS,
        """
        announce(1, 1, 8, 0); tick(9); summary(2, 0, 1, 8) = 0; routeKind(2, 8) = 2;
        routeCost(2, 8) = 2; withdraw(1, 1, 8); tick(2); summary(2, 0, 1, 8) = -1;
        routeKind(2, 8) = 0
        """);
    check(
        "if r is a border router, only area 0",
        """
        addRouter(); addRouter(); addRouter(); addRouter();
        addLink(0, 1, 0, 1, 1) = 0; addLink(0, 2, 2, 1, 1) = 1; addLink(2, 3, 2, 1, 1) = 2;
        announce(1, 0, 7, 7); tick(9); routeKind(2, 7) = 2; routeCost(2, 7) = 9;
        routeKind(3, 7) = 2; routeCost(3, 7) = 10; addLink(3, 1, 0, 50, 50) = 3;
        setLink(3, false); tick(3); isBorder(3) = true; summary(3, 2, 0, 7) = 8;
        routeKind(3, 7) = 0; routeKind(2, 7) = 2; setLink(3, true); tick(4); routeKind(3, 7) = 1;
        routeCost(3, 7) = 57
        """);
    check(
        "cost and links are determined in the same way: two areas, two border routers",
        """
        addRouter(); addRouter(); addRouter(); addRouter();
        addLink(0, 1, 1, 3, 3) = 0; addLink(0, 2, 3, 4, 4) = 1; addLink(1, 3, 0, 5, 5) = 2;
        addLink(2, 3, 0, 4, 4) = 3; announce(3, 0, 15, 0); tick(9); routeKind(0, 15) = 2;
        routeCost(0, 15) = 8; routeLinkCount(0, 15) = 2; routeLink(0, 15, 1) = 1;
        isLocal(0, 15) = false; setMetric(3, 0, 5); tick(4); routeCost(0, 15) = 8;
        routeLinkCount(0, 15) = 1; routeLink(0, 15, 0) = 0; trace(0, 15) = 2; tracedRouter(1) = 1
        """);
  }

  private static void wantedCosts() {
    check(
        "of kind 1 and the area is not one of its areas: areas of equal cost are all its areas",
        """
        addRouter(); addRouter(); addLink(0, 1, 0, 5, 5) = 0; addLink(0, 1, 1, 5, 5) = 1;
        addLink(0, 1, 2, 9, 9) = 2; announce(1, 0, 3, 1); announce(1, 1, 3, 1); tick(6);
        routeCost(0, 3) = 6; routeLinkCount(0, 3) = 2; summary(0, 2, 0, 3) = 6;
        summary(0, 0, 0, 3) = -2; summary(0, 1, 0, 3) = -2; summary(1, 2, 1, 3) = 1;
        summary(1, 0, 1, 3) = -2; summary(1, 1, 1, 3) = -2
        """);
    check(
        "In area 0 if this is of kind 1 and area 0 is not one of its areas",
        THREE_AREAS,
        """
        tick(9); summary(1, 0, 1, 9) = 6; summary(1, 1, 1, 9) = -2; announce(2, 0, 9, 1); tick(9);
        routeCost(1, 9) = 3; summary(1, 0, 1, 9) = -1; summary(1, 1, 1, 9) = 3;
        routeKind(0, 9) = 1; routeCost(0, 9) = 5; withdraw(2, 0, 9); tick(9);
        summary(1, 0, 1, 9) = 6; summary(1, 1, 1, 9) = -1
        """);
    check(
        "both areas have a candidate with this cost: told in neither",
        THREE_AREAS,
        """
        announce(2, 0, 9, 4); tick(9); routeCost(1, 9) = 6; routeLinkCount(1, 9) = 2;
        summary(1, 0, 1, 9) = -2; summary(1, 1, 1, 9) = -2; withdraw(2, 0, 9); tick(3);
        summary(1, 0, 1, 9) = 6; announce(2, 0, 9, 4); tick(3); summary(1, 0, 1, 9) = -1;
        summary(1, 1, 1, 9) = -2; agree(1, 2, 0) = true
        """);
    check(
        "of kind 2: told in the other areas, not in area 0",
        THREE_AREAS,
        """
        tick(9); routeKind(2, 9) = 2; summary(2, 2, 2, 9) = 8; summary(2, 0, 2, 9) = -2;
        addLink(2, 0, 3, 500, 500) = 3; tick(9); routeKind(2, 9) = 2; routeKind(0, 9) = 1;
        summary(2, 3, 2, 9) = 8; summary(2, 0, 2, 9) = -2; summary(0, 3, 2, 9) = 8;
        routeCost(0, 9) = 5
        """);
    check(
        "Otherwise there is no wanted cost: a router that is no border router tells nothing",
        """
        addRouter(); addRouter(); addRouter(); addLink(0, 1, 1, 1, 1); addLink(1, 2, 2, 1, 1);
        announce(0, 1, 4, 4); tick(9); routeKind(1, 4) = 1; databaseSize(1, 1) = 2;
        databaseSize(1, 2) = 2; routeKind(2, 4) = 0
        """);
  }

  // ---- routers that are down, and what is new since the latest tick

  private static void down() {
    String nothing =
        """
        databaseSize(1, 0) = 0; sequence(1, 0, 1) = 0; sequence(1, 0, 0) = 0;
        listedLinks(1, 0, 1) = -1; summary(1, 0, 1, 9) = -2; distance(1, 0, 1) = -1;
        distance(1, 1, 0) = -1; firstLinkCount(1, 0, 2) = 0;
        firstLink(1, 0, 2, 0) = throws NoSuchElementException; routeKind(1, 9) = 0;
        routeCost(1, 9) = throws NoSuchElementException; isLocal(1, 7) = false;
        routeLinkCount(1, 9) = 0; routeLink(1, 9, 0) = throws NoSuchElementException;
        changedRoutes(1) = 0; trace(1, 9) = -1; trace(1, 7) = -1; agree(1, 2, 0) = false;
        agree(2, 1, 0) = false;
        """;
    check(
        "Routers that are down have no distances and no routes",
        THREE_AREAS,
        "announce(1, 0, 7, 1); tick(8); withdraw(0, 1, 9); announce(0, 1, 9, 4); tick(2);",
        "changedRoutes(1) = 1; distance(1, 0, 1) = 0; routeKind(1, 9) = 1; isLocal(1, 7) = true;",
        "setRouter(1, false);",
        nothing,
        "agree(1, 1, 0) = false; tick(1);",
        nothing,
        "setRouter(1, false) = false; tick(60);",
        nothing,
        "agree(1, 1, 0) = false; setRouter(1, true) = false;",
        nothing,
        "agree(1, 1, 0) = true; tick(1); distance(1, 0, 1) = 0; isLocal(1, 7) = true");
    check(
        "a router that is down and one that is up with an empty database do not agree",
        PAIR,
        """
        setRouter(0, false); agree(0, 1, 0) = false; agree(1, 0, 0) = false;
        agree(0, 0, 0) = false; agree(1, 1, 0) = true; setRouter(0, true);
        agree(0, 1, 0) = true; agree(1, 0, 0) = true
        """);
    check(
        "a router that is down keeps its links and announcements, and does nothing in a tick",
        CHAIN,
        """
        tick(4); setRouter(2, false); linkCount() = 2; isUsable(1) = false; tick(40);
        sequence(1, 0, 2) = 1; announce(2, 0, 5, 4) = 3; setMetric(1, 1, 41) = 40;
        setRouter(2, true); isUsable(1) = true; tick(3); routeCost(1, 5) = 34;
        distance(2, 0, 1) = 41
        """);
  }

  private static void sinceTheLatestTick() {
    check(
        "remain as they were computed in the latest tick",
        CHAIN,
        """
        tick(4); setMetric(0, 0, 99); distance(0, 0, 2) = 40; routeCost(0, 5) = 43;
        setLink(1, false); distance(0, 0, 2) = 40; firstLink(0, 0, 2, 0) = 0;
        withdraw(2, 0, 5); isLocal(2, 5) = true; routeKind(2, 5) = 1; announce(0, 0, 5, 0);
        isLocal(0, 5) = false; announce(0, 0, 6, 0); routeKind(0, 6) = 0;
        addLink(0, 2, 0, 1, 1) = 2; distance(0, 0, 2) = 40; firstLinkCount(0, 0, 2) = 1;
        setRouter(2, false); routeCost(0, 5) = 43; routeLink(0, 5, 0) = 0;
        routeLink(1, 5, 0) = 1; distance(1, 0, 2) = 30; changedRoutes(0) = 0; tick(1);
        routeCost(0, 5) = 0; isLocal(0, 5) = true; distance(0, 0, 1) = 99; changedRoutes(0) = 2
        """);
    check(
        "if it was created since then, there are none",
        PAIR,
        """
        announce(1, 0, 4, 4); tick(4); addRouter() = 2; routeKind(2, 4) = 0;
        changedRoutes(2) = 0; trace(2, 4) = -1; addLink(2, 1, 0, 3, 3) = 1;
        distance(2, 0, 2) = -1; distance(2, 0, 1) = -1; distance(1, 0, 2) = -1;
        firstLinkCount(2, 0, 1) = 0; databaseSize(2, 0) = 0; announce(2, 0, 4, 0);
        isLocal(2, 4) = false; tick(1); distance(2, 0, 2) = 0; distance(2, 0, 1) = -1;
        isLocal(2, 4) = true; changedRoutes(2) = 1; tick(1); distance(2, 0, 1) = 3
        """);
    check(
        "not even 0, in an area to which it has been attached only since then",
        PAIR,
        """
        announce(1, 0, 4, 4); tick(4); addLink(0, 1, 3, 1, 1) = 1; distance(0, 3, 0) = -1;
        distance(1, 3, 1) = -1; firstLinkCount(0, 3, 1) = 0; distance(0, 0, 0) = 0;
        distance(0, 0, 1) = 10; databaseSize(0, 3) = 0; sequence(0, 3, 0) = 0;
        listedLinks(0, 3, 0) = -1; summary(0, 3, 0, 4) = -2; agree(0, 1, 3) = true;
        setLink(1, false); tick(1); distance(0, 3, 0) = 0; distance(0, 3, 1) = -1;
        databaseSize(0, 3) = 2
        """);
    check(
        "if it came up since then, there are none in any area",
        THREE_AREAS,
        """
        tick(9); setRouter(2, false); setRouter(2, true); distance(2, 0, 2) = -1;
        distance(2, 2, 2) = -1; distance(2, 2, 3) = -1; routeKind(2, 9) = 0; trace(2, 9) = -1;
        distance(1, 0, 2) = 2; routeKind(3, 9) = 2; trace(3, 9) = -1; tracedRouter(1) = 2; tick(1);
        distance(2, 0, 2) = 0; distance(2, 2, 2) = 0; distance(2, 2, 3) = -1
        """);
  }

  private static void changedRoutes() {
    check(
        "different in kind alone, and in whether it is local alone",
        THREE_AREAS,
        """
        tick(9); routeKind(2, 9) = 2; routeCost(2, 9) = 8; routeLink(2, 9, 0) = 1;
        announce(1, 0, 9, 6); tick(1); isLocal(1, 9) = true; routeCost(1, 9) = 6;
        routeLinkCount(1, 9) = 1; changedRoutes(1) = 1; changedRoutes(2) = 0; tick(1);
        routeKind(2, 9) = 1; routeCost(2, 9) = 8; routeLink(2, 9, 0) = 1; routeLinkCount(2, 9) = 1;
        changedRoutes(2) = 1; changedRoutes(1) = 0
        """);
    check(
        "different in cost alone, and in links alone",
        PAIR,
        """
        announce(1, 0, 2, 5); tick(4); announce(1, 0, 2, 6); tick(2); changedRoutes(0) = 1;
        routeLinkCount(0, 2) = 1; addLink(0, 1, 0, 10, 9) = 1; tick(1); changedRoutes(0) = 0;
        tick(1); changedRoutes(0) = 1; routeCost(0, 2) = 16; routeLinkCount(0, 2) = 2; tick(1);
        changedRoutes(0) = 0; setLink(0, false); tick(1); changedRoutes(0) = 1;
        routeLink(0, 2, 0) = 1
        """);
    check(
        "another link in the place of one, at the same cost",
        PAIR,
        """
        announce(1, 0, 2, 5); addLink(0, 1, 0, 11, 20) = 1; tick(4); routeLink(0, 2, 0) = 0;
        setMetric(0, 0, 11); setMetric(1, 0, 10); tick(1); routeLink(0, 2, 0) = 1;
        routeLinkCount(0, 2) = 1; routeCost(0, 2) = 15; changedRoutes(0) = 1
        """);
    check(
        "directly before this tick: of several ticks the latest one",
        PAIR,
        """
        announce(0, 0, 2, 5); tick(2); changedRoutes(0) = 0; announce(0, 0, 3, 5); tick(1);
        changedRoutes(0) = 1; changedRoutes(1) = 0; tick(1); changedRoutes(1) = 1;
        changedRoutes(0) = 0
        """);
    check(
        "all sixteen networks",
        PAIR,
        allNetworks("announce(0, 0, %d, 1)"),
        "tick(1); changedRoutes(0) = 16; changedRoutes(1) = 0; tick(1); changedRoutes(1) = 16;",
        "setLink(0, false); tick(1); changedRoutes(1) = 16; changedRoutes(0) = 0;",
        allNetworks("withdraw(0, 0, %d) = 1"),
        "tick(1); changedRoutes(0) = 16; changedRoutes(1) = 0");
    check(
        "0 if there was no tick since it was created or came up last",
        PAIR,
        """
        announce(0, 0, 2, 5); changedRoutes(0) = 0; tick(1); changedRoutes(0) = 1;
        setRouter(0, false); changedRoutes(0) = 0; setRouter(0, true); changedRoutes(0) = 0;
        tick(1); changedRoutes(0) = 1; addRouter() = 2; changedRoutes(2) = 0
        """);
  }

  private static String allNetworks(String call) {
    StringBuilder calls = new StringBuilder();
    for (int network = 0; network < 16; network++) {
      calls.append(call.formatted(network)).append(';');
    }
    return calls.toString();
  }

  // ---- packets and the checksum

  private static void packets() {
    check(
        "the number of links that it went over, over as many as there can be",
        LONG_ROW,
        """
        tick(16); trace(0, 15) = 15; tracedRouter(0) = 0; tracedRouter(14) = 14;
        tracedRouter(15) = 15; tracedRouter(16) = throws NoSuchElementException;
        trace(15, 15) = 0; tracedRouter(0) = 15; tracedRouter(1) = throws NoSuchElementException
        """);
    check(
        "after 32 links it is dropped: 33 routers saw it",
        CHAIN,
        """
        addLink(0, 2, 0, 100, 100) = 2; tick(5); setLink(1, false); tick(1); trace(0, 5) = -3;
        tracedRouter(0) = 0; tracedRouter(1) = 1; tracedRouter(32) = 0;
        tracedRouter(33) = throws NoSuchElementException;
        tracedRouter(34) = throws NoSuchElementException
        """);
    check(
        "the routers of the latest call of trace, whatever happens later",
        CHAIN,
        """
        tracedRouter(0) = throws NoSuchElementException; tick(5); trace(0, 5) = 2; tick(3);
        setRouter(1, false); withdraw(2, 0, 5); tick(1); tracedRouter(0) = 0;
        tracedRouter(1) = 1; tracedRouter(2) = 2; tracedRouter(3) = throws NoSuchElementException;
        trace(0, 16) = throws IndexOutOfBoundsException; tracedRouter(2) = 2; trace(0, 5) = -1;
        tracedRouter(0) = 0; tracedRouter(1) = throws NoSuchElementException
        """);
    check(
        "At each router: the route of that router counts",
        CHAIN,
        """
        tick(5); announce(1, 0, 5, 0); tick(1); isLocal(1, 5) = true; routeCost(0, 5) = 43;
        trace(0, 5) = 1; tracedRouter(1) = 1; tracedRouter(2) = throws NoSuchElementException
        """);
    check(
        "-2 because a link was not usable: the link or the router behind it",
        CHAIN,
        """
        tick(5); setRouter(2, false); trace(0, 5) = -2; tracedRouter(1) = 1;
        tracedRouter(2) = throws NoSuchElementException; setRouter(1, false); trace(0, 5) = -2;
        tracedRouter(1) = throws NoSuchElementException; setRouter(0, false); trace(0, 5) = -1
        """);
  }

  private static void checksum() {
    check("A number d starts with 19: nothing there", "digest() = " + digestOf(19, 0, 0, 0));
    check(
        "a router without an area has no database and no route",
        "addRouter(); tick(1); digest() = " + digestOf(digestOf(19, 1, 0, 0, 1), new int[16]));
    long up = digestOf(19, 9, 0, 0, 1, 1, 1, 1);
    up = digestOf(up, 2, 1, 1, 0, 0, 3, 0, 1, 1, 0, 2, 1, 1, 0, 0);
    up = digestOf(up, 3, 0, 1, 1, 0, 3, 0, 0, 1, 1, 3, 0, 0, 1, 1);
    for (int[] route : new int[][] {{1, 5, 0}, {1, 6, 1}, {2, 8, 1}, {2, 12, 1}}) {
      up = digestOf(digestOf(digestOf(up, new int[9]), route), new int[6]);
    }
    check(
        "databases in the order of routers and areas, then routes with cost and links",
        THREE_AREAS,
        "tick(9); digest() = " + up);
  }
}
