import java.io.IOException;
import java.nio.file.Files;
import java.nio.file.Path;
import java.util.Set;
import java.util.TreeSet;
import java.util.function.Supplier;
import java.util.function.ToLongFunction;

/** Counts the answers that are not as due, and prints them. */
final class Check {
  private static final long BIG = 1000000000L;
  private static final long FAR = 4000000000000000000L;

  private final String name;
  private final Set<String> refusalsSeen = new TreeSet<>();
  private int looked;
  private int wrong;
  private int promise;
  private String sentence = "";
  private String document;

  Check(String name) {
    this.name = name;
  }

  void promise(int number) {
    promise = number;
    sentence = "";
  }

  /** The words of the document that what follows is about; they must stand there as they are told. */
  void says(String words) {
    sentence = "\"" + words + "\": ";
    same("these words stand in the document", document().contains(words) ? 1 : 0, 1);
  }

  /** The document's text, its line ends and indents as single blanks. */
  String document() {
    if (document == null) {
      try {
        document = Files.readString(Path.of("../shared/DOC.md")).replaceAll("\\s+", " ");
      } catch (IOException e) {
        throw new IllegalStateException(e);
      }
    }
    return document;
  }

  void same(String call, long got, long due) {
    looked++;
    if (got != due) {
      wrong++;
      if (wrong <= 40) {
        System.out.println(name + ": promise " + promise + ": " + sentence + call + " answered " + got
            + ", due is " + due);
      }
    }
  }

  void sameText(String call, String got, String due) {
    looked++;
    if (!got.equals(due)) {
      wrong++;
      System.out.println(name + ": promise " + promise + ": " + sentence + call + " left\n  " + got
          + "\ndue is\n  " + due);
    }
  }

  /** As below, on a new object behind a night, and on one where there is something of everything. */
  void refuses(String night, String call, ToLongFunction<AccusedChoose> what, int number) {
    refuses(() -> told(night), call, what, number);
    refuses(() -> busy(night), call, what, number);
  }

  /** The call refuses with the number, twice; that is counted, and nothing else changes by it. */
  void refuses(Supplier<AccusedChoose> made, String call, ToLongFunction<AccusedChoose> what,
      int number) {
    refusalsSeen.add(promise + " " + number);
    AccusedChoose x = made.get();
    int[] due = refusals(x);
    for (int times = 1; times <= 2; times++) {
      same(call, what.applyAsLong(x), told(call, number));
      due[-number]++;
      int[] after = refusals(x);
      for (int i = 1; i < due.length; i++) {
        same(call + ", then count(" + (10 + i) + ")", after[i], due[i]);
      }
    }
    sameText(call, Trace.spend(x), Trace.spend(made.get()));
  }

  /** Behind a night that is told, and one made by calls: the call answers this, and is no refusal. */
  void takes(String night, String call, ToLongFunction<AccusedChoose> what, long due) {
    answers(told(night), call, what, due);
    answers(made(night), call + ", made by calls", what, due);
  }

  private void answers(AccusedChoose x, String call, ToLongFunction<AccusedChoose> what, long due) {
    same(call, what.applyAsLong(x), due);
    for (int i = 11; i <= 16; i++) {
      same(call + ", then count(" + i + ")", x.count(i), 0);
    }
  }

  Set<String> refusalsSeen() {
    return refusalsSeen;
  }

  private static long told(String call, int number) {
    if (call.startsWith("whose") || call.startsWith("caught")) {
      return FAR - number;
    }
    boolean big = call.startsWith("placeWorth") || call.startsWith("alibiWorth");
    return big ? BIG - number : number;
  }

  private static int[] refusals(AccusedChoose x) {
    int[] all = new int[7];
    for (int i = 1; i < all.length; i++) {
      all[i] = x.count(10 + i);
    }
    return all;
  }

  void end() {
    System.out.println(name + ": " + looked + " answers looked at, " + wrong + " not as due");
    if (wrong != 0 || looked == 0) {
      System.exit(1);
    }
  }

  static void feedAll(AccusedChoose x, String text) {
    for (int i = 0; i < text.length(); i++) {
      x.feed(text.charAt(i));
    }
  }

  /** A new object as told() makes it, but by the calls that add and change. */
  static AccusedChoose made(String text) {
    AccusedChoose x = new AccusedChoose();
    for (String one : text.isEmpty() ? new String[0] : text.split(";")) {
      int first = one.charAt(1) - '0';
      int second = one.charAt(2) - '0';
      switch (one.charAt(0)) {
        case 'd': x.addDeed(first, second); break;
        case 'p':
          x.addPerson(first, Integer.parseInt(one.substring(2, 5)), one.charAt(5) - '0');
          break;
        case 'b': x.brothers(first, second); break;
        case 'a': x.alibi(first, second); break;
        default: x.change(first, second); break;
      }
    }
    return x;
  }

  /** A new object behind a NIGHT that is told. */
  static AccusedChoose told(String text) {
    AccusedChoose x = new AccusedChoose();
    if (!text.isEmpty()) {
      feedAll(x, text);
      int answer = x.night();
      if (answer < 0) {
        throw new IllegalStateException("the test's own night has a fault: " + text + " " + answer);
      }
    }
    return x;
  }

  /** As told(), then an image, and behind it changes, letters and numbers of the ROW. */
  static AccusedChoose busy(String text) {
    AccusedChoose x = told(text);
    x.image();
    if (x.count(0) >= 2) {
      x.brothers(0, 1);
      x.change(0, 1);
    }
    if (x.count(0) >= 1 && x.count(1) >= 1) {
      x.alibi(0, 0);
    }
    feedAll(x, "d04");
    if (x.count(0) >= 1) {
      int taken = x.takes(0, 0);
      x.row(taken < 0 ? 9 : taken);
    }
    return x;
  }
}
