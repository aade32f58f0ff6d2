import java.util.function.Supplier;
import java.util.function.ToLongFunction;
import java.util.regex.Matcher;
import java.util.regex.Pattern;

/**
 * Every REFUSAL of every promise: at which numbers, which one where several fit, and that nothing
 * changes by it but how many there were.
 */
public final class RefusalTest {
  private static final Check C = new Check("RefusalTest");
  private static final int LOW = Integer.MIN_VALUE;
  private static final int HIGH = Integer.MAX_VALUE;
  private static final String TWO = "d00;d04;p00037;p00017;";
  private static final String FIVE_PEOPLE = "p00007;p00007;p00007;p00007;p00007;";
  private static final String SIX_PEOPLE = FIVE_PEOPLE + "p00007;";
  private static final String SEVEN_PEOPLE = SIX_PEOPLE + "p00007;";
  private static final String SEVEN_DEEDS = "d00;d00;d00;d00;d00;d00;d00;";

  /** A call of one number. */
  private interface One {
    long of(AccusedChoose x, int a);
  }

  /** A call of two numbers. */
  private interface Two {
    long of(AccusedChoose x, int a, int b);
  }

  /** A call of three numbers. */
  private interface Three {
    long of(AccusedChoose x, int a, int b, int c);
  }

  public static void main(String[] args) {
    letters();
    deedsAndPeople();
    adding();
    changing();
    mornings();
    choosings();
    orders();
    ifOtherwise();
    odds();
    partThree();
    partFour();
    rowAndLots();
    states();
    C.promise(51);
    everyRefusalOfTheDocument();
    C.end();
  }

  // ---- how a call is told

  private static void one(String night, String name, One call, int a, int number) {
    C.refuses(night, name + "(" + a + ")", x -> call.of(x, a), number);
  }

  private static void two(String night, String name, Two call, int a, int b, int number) {
    C.refuses(night, name + "(" + a + ", " + b + ")", x -> call.of(x, a, b), number);
  }

  private static void three(String night, String name, Three call, int[] v, int number) {
    String told = name + "(" + v[0] + ", " + v[1] + ", " + v[2] + ")";
    C.refuses(night, told, x -> call.of(x, v[0], v[1], v[2]), number);
  }

  private static int[] v(int a, int b, int c) {
    return new int[] {a, b, c};
  }

  /** Each of the numbers just outside 0 .. n less 1, and those farthest out. */
  private static int[] outside(int n) {
    return new int[] {-1, -2, -9, LOW, n, n + 1, HIGH};
  }

  /** "-1", or "-1; -2", for one of n and a what of m: NOBODY is told ahead of OTHER. */
  private static void oneAndWhat(String name, Two call, int n, int m) {
    for (int a : outside(n)) {
      two(TWO, name, call, a, 0, -1);
      two(TWO, name, call, a, m - 1, -1);
      two(TWO, name, call, a, m, -1);
      two(TWO, name, call, a, -1, -1);
    }
    for (int a = 0; a < n; a++) {
      for (int what : outside(m)) {
        two(TWO, name, call, a, what, -2);
      }
    }
  }

  /** "-1 either", for one of the two of TWO and one of its two DEEDS. */
  private static void eitherOfTwo(String name, Two call) {
    for (int out : outside(2)) {
      for (int in = 0; in < 2; in++) {
        two(TWO, name, call, out, in, -1);
        two(TWO, name, call, in, out, -1);
      }
      two(TWO, name, call, out, out, -1);
    }
    two("p00007;", name, call, 0, 0, -1);
    two("d00;", name, call, 0, 0, -1);
    two("", name, call, 0, 0, -1);
  }

  private static void onlyWhat(String name, One call, int m) {
    for (int what : outside(m)) {
      one(TWO, name, call, what, -2);
      one("", name, call, what, -2);
    }
  }

  private static void onlyOne(String name, One call) {
    for (int a : outside(2)) {
      one(TWO, name, call, a, -1);
    }
    one("d00;", name, call, 0, -1);
  }

  // ---- I

  private static Supplier<AccusedChoose> with96(String text) {
    return () -> {
      AccusedChoose x = Check.busy(TWO);
      x.night();
      Check.feedAll(x, text);
      return x;
    };
  }

  private static void letters() {
    C.promise(2);
    for (int letter : new int[] {-1, -2, -100, LOW}) {
      one("", "feed", AccusedChoose::feed, letter, -4);
      one(TWO, "feed", AccusedChoose::feed, letter, -4);
    }
    for (int letter : new int[] {256, 257, 356, HIGH}) {
      one("", "feed", AccusedChoose::feed, letter, -6);
      one(TWO, "feed", AccusedChoose::feed, letter, -6);
    }
    C.says("-6 (255; 96, too)");
    String full = "d00;".repeat(24);
    C.refuses(with96(full), "feed(59) with 96", x -> x.feed(';'), -6);
    C.refuses(with96(full), "feed(0) with 96", x -> x.feed(0), -6);
    C.refuses(with96(full), "feed(256) with 96", x -> x.feed(256), -6);
    C.refuses(with96(full), "feed(-1) with 96: below is told first", x -> x.feed(-1), -4);
    C.refuses(with96("a00;".repeat(24)), "feed(97) with 96", x -> x.feed('a'), -6);
  }

  private static void deedsAndPeople() {
    C.promise(4);
    oneAndWhat("deed", AccusedChoose::deed, 2, 2);
    C.promise(5);
    oneAndWhat("person", AccusedChoose::person, 2, 7);
    C.promise(6);
    C.says("MONTHS for one and a DEED (MAY he or not). -1 either.");
    eitherOfTwo("months", AccusedChoose::months);
  }

  private static void adding() {
    C.promise(7);
    C.says("A DEED more: its number. -2; -4; -6 (9; 7 there are).");
    for (int kind : outside(6)) {
      for (int figure : new int[] {0, 9, -1, LOW, 10, HIGH}) {
        two(TWO, "addDeed", AccusedChoose::addDeed, kind, figure, -2);
        two(SEVEN_DEEDS, "addDeed", AccusedChoose::addDeed, kind, figure, -2);
      }
    }
    for (int kind = 0; kind < 6; kind++) {
      for (int figure : new int[] {-1, -9, LOW}) {
        two(TWO, "addDeed", AccusedChoose::addDeed, kind, figure, -4);
        two(SEVEN_DEEDS, "addDeed", AccusedChoose::addDeed, kind, figure, -4);
      }
      for (int figure : new int[] {10, 11, HIGH}) {
        two(TWO, "addDeed", AccusedChoose::addDeed, kind, figure, -6);
        two(SEVEN_DEEDS, "addDeed", AccusedChoose::addDeed, kind, figure, -6);
      }
      two(SEVEN_DEEDS, "addDeed", AccusedChoose::addDeed, kind, 0, -6);
      two(SEVEN_DEEDS + "p00007;p00007;", "addDeed", AccusedChoose::addDeed, kind, 9, -6);
    }
    C.promise(8);
    C.says("One more: his number. -4 any; -6 (9; 127; 7; 7 there are).");
    for (String night : new String[] {"", TWO, SEVEN_PEOPLE}) {
      three(night, "addPerson", AccusedChoose::addPerson, v(-1, 0, 0), -4);
      three(night, "addPerson", AccusedChoose::addPerson, v(0, -1, 0), -4);
      three(night, "addPerson", AccusedChoose::addPerson, v(0, 0, -1), -4);
      three(night, "addPerson", AccusedChoose::addPerson, v(LOW, LOW, LOW), -4);
      three(night, "addPerson", AccusedChoose::addPerson, v(-1, 128, 8), -4);
      three(night, "addPerson", AccusedChoose::addPerson, v(10, -1, 8), -4);
      three(night, "addPerson", AccusedChoose::addPerson, v(10, 128, -1), -4);
      three(night, "addPerson", AccusedChoose::addPerson, v(HIGH, HIGH, LOW), -4);
      three(night, "addPerson", AccusedChoose::addPerson, v(10, 127, 7), -6);
      three(night, "addPerson", AccusedChoose::addPerson, v(9, 128, 7), -6);
      three(night, "addPerson", AccusedChoose::addPerson, v(9, 127, 8), -6);
      three(night, "addPerson", AccusedChoose::addPerson, v(HIGH, HIGH, HIGH), -6);
    }
    three(SEVEN_PEOPLE, "addPerson", AccusedChoose::addPerson, v(0, 0, 0), -6);
    three(SEVEN_PEOPLE, "addPerson", AccusedChoose::addPerson, v(9, 127, 7), -6);
  }

  private static void twoPeople(String name, Two call) {
    eitherOfTwo(name, call);
    two(TWO, name, call, 0, 0, -1);
    two(TWO, name, call, 1, 1, -1);
    // A DEED 2 is there, but nobody 2.
    two("d00;d00;d00;p00007;p00007;", name, call, 0, 2, -1);
    two("d00;d00;d00;p00007;p00007;", name, call, 2, 0, -1);
    two(SEVEN_PEOPLE, name, call, 6, 6, -1);
    two(SEVEN_PEOPLE, name, call, 6, 7, -1);
  }

  private static void personAndDeed(String name, Two call) {
    eitherOfTwo(name, call);
    // One 2 is there, but no DEED 2, and the other way round.
    two("d00;d00;p00007;p00007;p00007;", name, call, 0, 2, -1);
    two("d00;d00;d00;p00007;p00007;", name, call, 2, 0, -1);
  }

  private static void changing() {
    C.promise(9);
    C.says("Two change places in ORDER: the place of the first then. -1 either (one twice).");
    twoPeople("change", AccusedChoose::change);
    C.promise(10);
    C.says("An ALIBI, or none any more: 1, 0. -1 either.");
    personAndDeed("alibi", AccusedChoose::alibi);
    C.promise(11);
    C.says("They are BROTHERS: whose BROTHER the first was; -9. -1 either (one twice).");
    twoPeople("brothers", AccusedChoose::brothers);
  }

  // ---- II

  private static void mornings() {
    C.promise(13);
    oneAndWhat("takes", AccusedChoose::takes, 2, 2);
    C.promise(14);
    onlyWhat("morning", AccusedChoose::morning, 3);
  }

  private static void choosings() {
    C.promise(15);
    C.says("-1 (below -1, too)");
    for (int person : new int[] {-2, -3, -9, LOW, 2, 3, HIGH}) {
      one(TWO, "least", AccusedChoose::least, person, -1);
    }
    one("", "least", AccusedChoose::least, 0, -1);
    one("", "least", AccusedChoose::least, -2, -1);
    C.promise(16);
    oneAndWhat("fromLast", AccusedChoose::fromLast, 2, 2);
    C.promise(18);
    C.says("ways (person -1, deed -1), with one and a DEED. Refused as told: -1.");
    for (int in = 0; in < 2; in++) {
      two(TWO, "whose", AccusedChoose::whose, -1, in, -1);
      two(TWO, "whose", AccusedChoose::whose, in, -1, -1);
      two(TWO, "whose", AccusedChoose::whose, -2, in, -1);
      two(TWO, "whose", AccusedChoose::whose, in, -2, -1);
      two(TWO, "whose", AccusedChoose::whose, 2, in, -1);
      two(TWO, "whose", AccusedChoose::whose, in, 2, -1);
      two(TWO, "whose", AccusedChoose::whose, LOW, in, -1);
      two(TWO, "whose", AccusedChoose::whose, in, HIGH, -1);
    }
    two(TWO, "whose", AccusedChoose::whose, -1, -2, -1);
    two(TWO, "whose", AccusedChoose::whose, -2, -1, -1);
    two(TWO, "whose", AccusedChoose::whose, -1, 2, -1);
    two(TWO, "whose", AccusedChoose::whose, 2, -1, -1);
    two("", "whose", AccusedChoose::whose, 0, 0, -1);
    C.promise(19);
    C.says("all MONTHS (what 0), UNFAIR (1; -9). -2 either.");
    for (int rule : outside(5)) {
      two(TWO, "rule", AccusedChoose::rule, rule, 0, -2);
      two(TWO, "rule", AccusedChoose::rule, rule, 1, -2);
      two(TWO, "rule", AccusedChoose::rule, rule, 2, -2);
    }
    for (int what : outside(2)) {
      two(TWO, "rule", AccusedChoose::rule, 0, what, -2);
      two(TWO, "rule", AccusedChoose::rule, 4, what, -2);
    }
  }

  /** "-3 more than 5; -4 below -1": the STATE is told first. */
  private static void fivePeople(String name, One call) {
    for (int i : new int[] {-1, 0, 5, 6, HIGH, -2, -9, LOW}) {
      one(SIX_PEOPLE, name, call, i, -3);
      one(SEVEN_PEOPLE, name, call, i, -3);
    }
    for (int i : new int[] {-2, -3, -9, LOW}) {
      one("", name, call, i, -4);
      one(TWO, name, call, i, -4);
      one(FIVE_PEOPLE, name, call, i, -4);
    }
  }

  private static void orders() {
    C.promise(21);
    onlyOne("placeWorth", AccusedChoose::placeWorth);
    C.promise(23);
    C.says("its i-th (-9), that (i -1). -3 more than 5; -4 below -1.");
    fivePeople("bestOrder", AccusedChoose::bestOrder);
    C.promise(35);
    C.says("these (i -1), the i-th (-9). -3 more than 5; -4 below -1.");
    fivePeople("even", AccusedChoose::even);
    C.promise(46);
    C.says("the first's i-th (-9) (the ROW stays). -3 more than 5; -4 below -1.");
    fivePeople("fits", AccusedChoose::fits);
  }

  private static void ifOtherwise() {
    C.promise(24);
    C.says("how many (what 0), all MONTHS (1). -4; -6 9; -2.");
    for (int what : new int[] {0, 1, 2, -1, LOW, HIGH}) {
      for (int figure : new int[] {-1, -9, LOW}) {
        two(TWO, "putIn", AccusedChoose::putIn, figure, what, -4);
      }
      for (int figure : new int[] {10, 11, HIGH}) {
        two(TWO, "putIn", AccusedChoose::putIn, figure, what, -6);
      }
    }
    for (int what : outside(2)) {
      two(TWO, "putIn", AccusedChoose::putIn, 0, what, -2);
      two(TWO, "putIn", AccusedChoose::putIn, 9, what, -2);
    }
    C.promise(25);
    C.says("MONTHS (what 0), GAIN (1). -4; -6 bits of nobody; -2.");
    for (int what : new int[] {0, 1, 2, -1, LOW, HIGH}) {
      for (int set : new int[] {-1, -128, LOW}) {
        two(TWO, "together", AccusedChoose::together, set, what, -4);
      }
      for (int set : new int[] {4, 5, 7, 128, 1 << 30, HIGH}) {
        two(TWO, "together", AccusedChoose::together, set, what, -6);
      }
      two(SEVEN_PEOPLE, "together", AccusedChoose::together, 128, what, -6);
      two("", "together", AccusedChoose::together, 1, what, -6);
    }
    for (int what : outside(2)) {
      two(TWO, "together", AccusedChoose::together, 0, what, -2);
      two(TWO, "together", AccusedChoose::together, 3, what, -2);
    }
    C.promise(26);
    C.says("ALIBI. Refused as told: -1 either.");
    personAndDeed("alibiWorth", AccusedChoose::alibiWorth);
  }

  private static void odds() {
    C.promise(28);
    C.says("Refused as told: -4 (t below 2, k below 0); -6 (20; 7); -2.");
    for (int part : new int[] {0, 1, 2, -1, LOW, HIGH}) {
      for (int t : new int[] {1, 0, -1, LOW}) {
        for (int k : new int[] {0, 7, 8, -1}) {
          three(TWO, "caught", AccusedChoose::caught, v(t, k, part), -4);
        }
      }
      for (int t : new int[] {2, 20, 21, HIGH}) {
        three(TWO, "caught", AccusedChoose::caught, v(t, -1, part), -4);
        three(TWO, "caught", AccusedChoose::caught, v(t, LOW, part), -4);
        three(TWO, "caught", AccusedChoose::caught, v(t, 8, part), -6);
        three(TWO, "caught", AccusedChoose::caught, v(t, HIGH, part), -6);
      }
      three(TWO, "caught", AccusedChoose::caught, v(21, 0, part), -6);
      three(TWO, "caught", AccusedChoose::caught, v(HIGH, 7, part), -6);
    }
    for (int part : outside(2)) {
      three(TWO, "caught", AccusedChoose::caught, v(2, 0, part), -2);
      three(TWO, "caught", AccusedChoose::caught, v(20, 7, part), -2);
    }
  }

  // ---- III, IV

  private static void partThree() {
    C.promise(31);
    onlyWhat("swaps", AccusedChoose::swaps, 2);
    C.promise(32);
    C.says("HEAVIER; -9. -1 either.");
    personAndDeed("heavier", AccusedChoose::heavier);
    C.promise(33);
    onlyOne("bestDid", AccusedChoose::bestDid);
    C.promise(34);
    onlyWhat("rest", AccusedChoose::rest, 3);
    C.promise(36);
    onlyOne("lastWord", AccusedChoose::lastWord);
  }

  private static void partFour() {
    C.promise(37);
    onlyWhat("bribe", AccusedChoose::bribe, 2);
    C.promise(38);
    oneAndWhat("latest", AccusedChoose::latest, 2, 2);
    C.promise(39);
    onlyWhat("truth", AccusedChoose::truth, 2);
  }

  private static Supplier<AccusedChoose> withRow(int numbers) {
    return () -> {
      AccusedChoose x = Check.busy(TWO);
      x.clear();
      for (int i = 0; i < numbers; i++) {
        int taken = i < 2 ? x.takes(i, 0) : 5;
        x.row(taken < 0 ? 9 : taken);
      }
      return x;
    };
  }

  private static void rowAndLots() {
    C.promise(44);
    C.says("A number more of the ROW: how many. -4; -6 (9; 12, too).");
    for (int number : new int[] {-1, -9, LOW}) {
      one(TWO, "row", AccusedChoose::row, number, -4);
      C.refuses(withRow(12), "row(" + number + ") with 12: below is told first",
          x -> x.row(number), -4);
    }
    for (int number : new int[] {10, 11, HIGH}) {
      one(TWO, "row", AccusedChoose::row, number, -6);
      C.refuses(withRow(12), "row(" + number + ") with 12", x -> x.row(number), -6);
      C.refuses(withRow(2), "row(" + number + ") with 2", x -> x.row(number), -6);
    }
    C.refuses(withRow(12), "row(0) with 12", x -> x.row(0), -6);
    C.refuses(withRow(12), "row(9) with 12", x -> x.row(9), -6);
    C.promise(48);
    C.says("all (what 0), in how many (1). -4; -6 20; -2.");
    for (int what : new int[] {0, 1, 2, -1, LOW, HIGH}) {
      for (int n : new int[] {0, -1, LOW}) {
        three(TWO, "lots", AccusedChoose::lots, v(n, 1, what), -4);
      }
      for (int n : new int[] {21, 22, HIGH}) {
        three(TWO, "lots", AccusedChoose::lots, v(n, -1, what), -6);
      }
    }
    for (int what : outside(2)) {
      three(TWO, "lots", AccusedChoose::lots, v(1, 0, what), -2);
      three(TWO, "lots", AccusedChoose::lots, v(20, HIGH, what), -2);
    }
  }

  // ---- -3: it is not as told

  private static Supplier<AccusedChoose> behind(String night, ToLongFunction<AccusedChoose> what) {
    return () -> {
      AccusedChoose x = Check.busy(night);
      what.applyAsLong(x);
      return x;
    };
  }

  private static void states() {
    C.promise(12);
    C.says("TAKEN BACK: how many can still be. -3 none.");
    C.refuses(AccusedChoose::new, "back() of a new one", x -> x.back(), -3);
    C.refuses(() -> Check.told(TWO), "back() behind a night", x -> x.back(), -3);
    C.refuses(behind(TWO, x -> x.addDeed(0, 0)), "back() behind addDeed", x -> x.back(), -3);
    C.refuses(behind(TWO, x -> x.addPerson(0, 0, 0)), "back() behind addPerson", x -> x.back(), -3);
    C.refuses(behind(TWO, x -> x.restore()), "back() behind restore", x -> x.back(), -3);
    C.refuses(behind(TWO, x -> x.back() + x.back() + x.back()), "back() behind all",
        x -> x.back(), -3);
    C.promise(50);
    C.says("It is RESTORED: how many PEOPLE. -3 there is none.");
    C.refuses(AccusedChoose::new, "restore() of a new one", x -> x.restore(), -3);
    C.refuses(() -> Check.told(TWO), "restore() behind a night", x -> x.restore(), -3);
    C.refuses(() -> {
      AccusedChoose x = Check.told(TWO);
      x.change(0, 1);
      x.row(0);
      x.feed('d');
      return x;
    }, "restore() behind changes", x -> x.restore(), -3);
  }

  // ---- none is left out

  /** What the document's promises tell behind their answers, each number once a promise. */
  private static void everyRefusalOfTheDocument() {
    Matcher m = Pattern.compile("## Promise (\\d+): (.*?)(?=## )").matcher(C.document());
    int told = 0;
    while (m.find()) {
      int promise = Integer.parseInt(m.group(1));
      String text = m.group(2).replaceAll("\\([^()]*\\)", "").replaceAll("below -1", "");
      Matcher number = Pattern.compile("(?<!\\d)-([1-6])(?!\\d)").matcher(promise == 51 ? "" : text);
      while (number.find()) {
        told++;
        String due = promise + " -" + number.group(1);
        C.same("there is a test of promise and refusal " + due,
            C.refusalsSeen().contains(due) ? 1 : 0, 1);
      }
    }
    C.same("refusals told in the document", told, C.refusalsSeen().size());
  }
}
