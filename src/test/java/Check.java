import java.util.function.ToLongFunction;

/** Counts the answers that are not as due, and prints them. */
final class Check {
  private final String name;
  private int looked;
  private int wrong;
  private String at = "";

  Check(String name) {
    this.name = name;
  }

  void promise(int number) {
    at = "promise " + number + ": ";
  }

  void same(String call, long got, long due) {
    looked++;
    if (got != due) {
      wrong++;
      if (wrong <= 40) {
        System.out.println(name + ": " + at + call + " answered " + got + ", due is " + due);
      }
    }
  }

  /** On a new object behind a night: the call refuses, that is counted, and nothing else changes. */
  void refuses(String night, String call, ToLongFunction<AccusedChoose> what, int number) {
    AccusedChoose x = told(night);
    int[] due = counts(x);
    long base = call.startsWith("whose") || call.startsWith("caught") ? 4000000000000000000L
        : call.startsWith("placeWorth") || call.startsWith("alibiWorth") ? 1000000000L : 0L;
    same(call, what.applyAsLong(x), base == 0 ? number : base - number);
    due[10 - number]++;
    int[] after = counts(x);
    for (int i = 0; i < due.length; i++) {
      same(call + ", then count(" + i + ")", after[i], due[i]);
    }
  }

  private static int[] counts(AccusedChoose x) {
    int[] all = new int[17];
    for (int i = 0; i < all.length; i++) {
      all[i] = x.count(i);
    }
    return all;
  }

  void end() {
    System.out.println(name + ": " + looked + " answers looked at, " + wrong + " not as due");
    if (wrong != 0 || looked == 0) {
      System.exit(1);
    }
  }

  static void feedAll(AccusedChoose x, String text) {
    for (int i = 0; i < text.length(); i++) {
      x.feed(text.charAt(i));
    }
  }

  /** A new object as told() makes it, but by the calls that add and change. */
  static AccusedChoose made(String text) {
    AccusedChoose x = new AccusedChoose();
    for (String one : text.split(";")) {
      int first = one.charAt(1) - '0';
      int second = one.charAt(2) - '0';
      switch (one.charAt(0)) {
        case 'd': x.addDeed(first, second); break;
        case 'p':
          x.addPerson(first, Integer.parseInt(one.substring(2, 5)), one.charAt(5) - '0');
          break;
        case 'b': x.brothers(first, second); break;
        case 'a': x.alibi(first, second); break;
        default: x.change(first, second); break;
      }
    }
    return x;
  }

  /** A new object behind a NIGHT that is told. */
  static AccusedChoose told(String text) {
    AccusedChoose x = new AccusedChoose();
    if (!text.isEmpty()) {
      feedAll(x, text);
      int answer = x.night();
      if (answer < 0) {
        throw new IllegalStateException("the test's own night has a fault: " + text + " " + answer);
      }
    }
    return x;
  }
}
