import java.util.List;

/** What the tests made of scripts share: small topologies, the check of a script, the count. */
abstract class Suite {
  /** Two routers and a link between them. */
  static final String PAIR =
      "addRouter() = 0; addRouter() = 1; addLink(0, 1, 0, 10, 20) = 0;";

  /** Routers 0 - 1 - 2 in area 0; network 5 at router 2, cost 3. */
  static final String CHAIN =
      """
      addRouter(); addRouter(); addRouter();
      addLink(0, 1, 0, 10, 20) = 0; addLink(1, 2, 0, 30, 40) = 1; announce(2, 0, 5, 3) = -1;
      """;

  /** Area 1: routers 0 - 1; area 0: 1 - 2; area 2: 2 - 3. Network 9 at router 0, cost 5. */
  static final String THREE_AREAS =
      """
      addRouter(); addRouter(); addRouter(); addRouter();
      addLink(0, 1, 1, 1, 1) = 0; addLink(1, 2, 0, 2, 2) = 1; addLink(2, 3, 2, 4, 4) = 2;
      announce(0, 1, 9, 5) = -1;
      """;

  private static int checked = 0;
  private static int wrong = 0;

  /** Runs the script on new objects, a RoutingDomain and a PlainDomain. */
  static void check(String name, String... scripts) {
    String script = String.join(";", scripts);
    for (Object domain : List.of(new RoutingDomain(), new PlainDomain())) {
      count(name + " (" + domain.getClass().getName() + ")", Script.faults(domain, script));
    }
  }

  static void count(String name, List<String> faults) {
    checked++;
    if (!faults.isEmpty()) {
      wrong++;
      System.out.println(name + ": " + String.join("; ", faults));
    }
  }

  static void finish() {
    System.out.println(checked + " scripts, " + wrong + " wrong");
    if (wrong != 0) {
      System.exit(1);
    }
  }

  static String times(int count, String call) {
    return (call + ";").repeat(count);
  }

  /** Goes on with a digest from one of its steps. */
  static long digestOf(long start, int... numbers) {
    long d = start;
    for (int x : numbers) {
      d = d * 31 + x;
    }
    return d;
  }
}
