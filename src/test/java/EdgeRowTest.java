import java.util.Arrays;

/** The ROW, LOTS, THE IMAGE and what is counted, at their edges. */
public final class EdgeRowTest {
  private static final Check C = new Check("EdgeRowTest");
  private static final int LOW = Integer.MIN_VALUE;
  private static final int HIGH = Integer.MAX_VALUE;
  // Seven DEEDS of 1, 3, .. 13 months and seven who COULD all: 0 takes 0, 1 takes 1, ..
  private static final String SEVEN_DEEDS = "d00;d01;d02;d03;d04;d05;d06;";
  private static final String FULL =
      SEVEN_DEEDS + "p01277;p01277;p01277;p01277;p01277;p01277;p01277;";
  private static final String TWO = "d00;d04;p00037;p00017;";

  public static void main(String[] args) {
    rowOfTwelve();
    judgedNotSo();
    judgedNone();
    fittingOrders();
    fittingFirst();
    fittingStays();
    clearing();
    lotsOfNumbers();
    lotsWrap();
    lotsStay();
    imageOfAll();
    imageOfNobody();
    allButLettersAndRow();
    countOthers();
    countRefusals();
    C.end();
  }

  private static AccusedChoose withRow(String night, int... numbers) {
    AccusedChoose x = Check.told(night);
    for (int v : numbers) {
      x.row(v);
    }
    return x;
  }

  private static void rowOfTwelve() {
    C.promise(44);
    C.says("A ROW of numbers (0 .. 9; 12 at most)");
    for (int v = 0; v <= 9; v++) {
      int number = v;
      C.takes("", "row(" + v + ")", x -> x.row(number), 1);
    }
    AccusedChoose x = new AccusedChoose();
    for (int i = 1; i <= 12; i++) {
      C.same("row, the " + i + "th", x.row(i % 10), i);
    }
    C.same("row, the 13th", x.row(0), -6);
    C.same("count(5)", x.count(5), 12);
    C.same("clear()", x.clear(), 12);
    C.same("row behind it", x.row(0), 1);
  }

  private static void judge(String night, int due, int... numbers) {
    AccusedChoose x = withRow(night, numbers);
    C.same("judge()", x.judge(), due);
    C.same("count(5) behind judge()", x.count(5), 0);
    C.same("judge() once more", x.judge(), -9);
  }

  private static void judgedNotSo() {
    C.promise(45);
    C.says("JUDGED: what PEOPLE 0, 1, .. take by a MORNING (9 none): "
        + "the first that is not so (no such one, too); -9.");
    judge(TWO, 0, 9);
    judge(TWO, 0, 1, 0);
    judge(TWO, 0, 8);
    judge(TWO, 1, 0, 0);
    judge(TWO, 1, 0, 7);
    judge(TWO, 1, 0, 8, 9);
    judge(TWO, 2, 0, 9, 9);
    judge(TWO, 2, 0, 9, 0, 1);
    judge("", 0, 0);
    judge("", 0, 9);
    judge("d00;", 0, 0);
    judge("p00007;", 0, 0);
    judge("p00007;", 1, 9, 9);
    judge(FULL, 6, 0, 1, 2, 3, 4, 5, 9);
    judge(FULL, 7, 0, 1, 2, 3, 4, 5, 6, 9);
    judge(FULL, 7, 0, 1, 2, 3, 4, 5, 6, 7, 8, 9, 0, 1);
    judge(FULL, 3, 0, 1, 2, 4, 3, 5, 6, 9, 9, 9, 9, 9);
  }

  private static void judgedNone() {
    C.says("JUDGED; -9 (whichever it answers, the ROW has none then).");
    judge("", -9);
    judge(FULL, -9);
    judge(FULL, -9, 0);
    judge(FULL, -9, 0, 1, 2, 3, 4, 5, 6);
    judge(TWO, -9, 0, 9);
    judge("p00007;p00007;", -9, 9, 9);
    // By ORDER 1 is ahead and takes 0, but the ROW is by numbers.
    judge(TWO + "x01;", -9, 1, 0);
    judge(TWO + "x01;", 0, 0, 9);
  }

  private static void fits(String night, int[] row, int orders, int... first) {
    AccusedChoose x = withRow(night, row);
    C.same("fits(-1) of " + night, x.fits(-1), orders);
    for (int i = 0; i < first.length; i++) {
      C.same("fits(" + i + ") of " + night, x.fits(i), first[i]);
    }
    for (int i : new int[] {first.length, first.length + 1, 6, 7, 120, HIGH}) {
      C.same("fits(" + i + ") of " + night, x.fits(i), -9);
    }
  }

  private static int[] row(int... numbers) {
    return numbers;
  }

  private static void fittingOrders() {
    C.promise(46);
    C.says("ORDERS THAT FIT (5 PEOPLE at most): in how many ORDERS by a MORNING all of the ROW is so; "
        + "the first such's i-th; -9.");
    String none = "p00007;";
    int[] orders = {1, 1, 2, 6, 24, 120};
    int[] five = {0, 1, 2, 3, 4};
    for (int people = 0; people <= 5; people++) {
      int[] first = Arrays.copyOf(five, people);
      fits(none.repeat(people), row(), orders[people], first);
      fits(none.repeat(people), Arrays.copyOf(row(9, 9, 9, 9, 9), people), orders[people],
          first);
    }
    // One number too many, or one that can't be.
    for (int people = 0; people <= 5; people++) {
      fits(none.repeat(people), Arrays.copyOf(row(9, 9, 9, 9, 9, 9), people + 1), 0);
      if (people > 0) {
        fits(none.repeat(people), row(8), 0);
      }
    }
    fits(TWO, row(0, 9, 9, 9, 9, 9, 9, 9, 9, 9, 9, 9), 0);
  }

  private static void fittingFirst() {
    // Only the last of all ORDERS, and only the first.
    fits("d00;d01;d02;d03;d04;p00317;p00157;p00077;p00037;p00017;", row(4, 3, 2, 1, 0), 1,
        4, 3, 2, 1, 0);
    fits("d00;d01;d02;d03;d04;p00017;p00037;p00077;p00157;p00317;", row(0, 1, 2, 3, 4), 1,
        0, 1, 2, 3, 4);
    // 4 has the only one: 24 ORDERS, the first of them 4, 0, 1, 2, 3.
    fits("d00;p00017;p00017;p00017;p00017;p00017;", row(9, 9, 9, 9, 0), 24, 4, 0, 1, 2, 3);
    fits("d00;p00017;p00017;p00017;p00017;p00017;", row(9, 9), 72, 2, 0, 1, 3, 4);
    fits(TWO, row(0, 9), 1, 0, 1);
    fits(TWO, row(1, 0), 1, 1, 0);
    fits(TWO, row(1), 1, 1, 0);
    fits(TWO, row(0, 0), 0);
    // As it is in ORDER does not count: it is by all ORDERS.
    fits(TWO + "x01;", row(0, 9), 1, 0, 1);
  }

  private static void fittingStays() {
    C.says("the first's i-th (-9) (the ROW stays)");
    AccusedChoose x = withRow(TWO, 0);
    for (int times = 0; times < 3; times++) {
      C.same("fits(-1)", x.fits(-1), 1);
      C.same("fits(0)", x.fits(0), 0);
      C.same("fits(1)", x.fits(1), 1);
      C.same("count(5)", x.count(5), 1);
    }
    x.row(0);
    C.same("fits(-1): none fits any more", x.fits(-1), 0);
    C.same("fits(0): none fits any more", x.fits(0), -9);
    C.same("fits(1): none fits any more", x.fits(1), -9);
    C.same("count(5)", x.count(5), 2);
    C.same("judge(): the ROW is as it was", x.judge(), 1);
  }

  private static void clearing() {
    C.promise(47);
    C.says("The ROW has none then: how many it had.");
    C.same("clear() of none", new AccusedChoose().clear(), 0);
    C.same("clear() of one", withRow("", 5).clear(), 1);
    AccusedChoose x = withRow(TWO, 0, 9, 0, 0, 0, 0, 0, 0, 0, 0, 0, 0);
    C.same("clear() of twelve", x.clear(), 12);
    C.same("clear() once more", x.clear(), 0);
    C.same("fits(-1) behind it", x.fits(-1), 2);
    C.same("judge() behind it", x.judge(), -9);
  }

  // ---- LOTS

  /** COULD of one as it is drawn: the lowest DEED of those, 1, 3, .. 13 months, or 60. */
  private static int months(long draw, long taken) {
    for (int deed = 0; deed < 7; deed++) {
      if (draw / (1L << deed) % 2 == 1 && taken / (1L << deed) % 2 == 0) {
        return 2 * deed + 1;
      }
    }
    return 60;
  }

  private static long next(long z) {
    return (z * 1103515245L + 12345L) % 4294967296L;
  }

  private static long draw(long z) {
    return z % 2147483648L / 65536L % 128L;
  }

  private static void lots(int n, int z) {
    long seed = z < 0 ? z + 4294967296L : z;
    long one = 0;
    long oneFull = 0;
    long two = 0;
    long twoFull = 0;
    long seedOfTwo = seed;
    for (int i = 0; i < n; i++) {
      seed = next(seed);
      int his = months(draw(seed), 0);
      one += his;
      oneFull += his < 60 ? 1 : 0;
      seedOfTwo = next(seedOfTwo);
      long first = draw(seedOfTwo);
      seedOfTwo = next(seedOfTwo);
      // 1 is the first in ORDER, but his COULD is the second that is drawn.
      int ones = months(draw(seedOfTwo), 0);
      int zeros = months(first, ones < 60 ? 1L << ones / 2 : 0);
      two += ones + zeros;
      twoFull += ones < 60 && zeros < 60 ? 1 : 0;
    }
    String call = "lots(" + n + ", " + z + ", ";
    C.takes(SEVEN_DEEDS + "p00007;", call + "0)", x -> x.lots(n, z, 0), one);
    C.takes(SEVEN_DEEDS + "p00007;", call + "1)", x -> x.lots(n, z, 1), oneFull);
    C.takes(SEVEN_DEEDS + "p00007;p00007;x01;", call + "0) of two", x -> x.lots(n, z, 0), two);
    C.takes(SEVEN_DEEDS + "p00007;p00007;x01;", call + "1) of two", x -> x.lots(n, z, 1), twoFull);
  }

  private static void lotsOfNumbers() {
    C.promise(48);
    C.says("LOTS with a seed z: n mornings (1 .. 20), COULD of each (by numbers) a DRAW below 128: "
        + "all MONTHS together; in how many nobody is WITHOUT.");
    for (int n = 1; n <= 20; n++) {
      lots(n, 1);
      C.takes("", "lots(" + n + ", 1, 0) of nobody", x -> x.lots(20, 1, 0), 0);
      int mornings = n;
      C.takes("", "lots(" + n + ", 1, 1) of nobody", x -> x.lots(mornings, 1, 1), n);
      C.takes("p01277;", "lots(" + n + ", 1, 0) of no DEEDS", x -> x.lots(mornings, 1, 0), 60 * n);
      C.takes("p01277;", "lots(" + n + ", 1, 1) of no DEEDS", x -> x.lots(mornings, 1, 1), 0);
      C.takes("d50;p00007;", "lots of a FORGERY", x -> x.lots(mornings, 1, 0), 4 * n);
      C.takes("d50;p00007;", "lots of a FORGERY", x -> x.lots(mornings, 1, 1), n);
      C.takes("d50;p00007;a00;", "lots with an ALIBI", x -> x.lots(mornings, 1, 0), 60 * n);
      C.takes("d50;p00007;a00;", "lots with an ALIBI", x -> x.lots(mornings, 1, 1), 0);
    }
    C.takes("d00;p00007;", "lots(1, 1, 0): the first draw is 70", x -> x.lots(1, 1, 0), 60);
    C.takes("d01;d00;p00007;", "lots(1, 1, 0): the first draw is 70", x -> x.lots(1, 1, 0), 1);
  }

  private static void lotsWrap() {
    C.says("z becomes z times 1103515245 plus 12345 (an int, wrapping); "
        + "a DRAW below n is (z without its sign's bit, over 65536, cut) modulo n.");
    for (int z : new int[] {0, 1, 2, -1, -2, LOW, LOW + 1, HIGH, HIGH - 1, 65535, 65536, -65536,
        20261119, 1103515245, -12345, 1 << 30, 3 << 29}) {
      lots(1, z);
      lots(2, z);
      lots(20, z);
    }
  }

  private static void lotsStay() {
    C.says("COULD of each (by numbers) a DRAW below 128");
    AccusedChoose x = Check.told("d00;p00857;p01277;p00007;");
    int first = x.lots(20, 7, 0);
    C.same("lots(20, 7, 0) once more", x.lots(20, 7, 0), first);
    int[] could = {85, 127, 0};
    for (int person = 0; person < 3; person++) {
      C.same("person(" + person + ", 1): his COULD stays", x.person(person, 1), could[person]);
    }
    C.same("morning(1) is as it was", x.morning(1), 121);
  }

  // ---- THE IMAGE

  private static void imageOfAll() {
    C.promise(49);
    C.says("THE IMAGE is taken: how many PEOPLE.");
    C.same("image() of seven", Check.told(FULL).image(), 7);
    C.same("image() of one", Check.told("p00007;").image(), 1);
    C.promise(50);
    C.says("THE IMAGE: all that there is of I, but it, letters, the ROW, REFUSALS.");
    String night = "d03;d15;d29;d34;d48;d57;d01;p41277;p00632;p90157;p50016;p20127;p61274;p11010;"
        + "b01;b23;a66;x06;";
    AccusedChoose x = Check.told(night);
    x.image();
    x.brothers(1, 2);
    x.change(3, 5);
    x.alibi(6, 6);
    x.alibi(0, 0);
    C.same("restore() of seven", x.restore(), 7);
    C.sameText("restore()", seen(x), seen(Check.told(night)));
    AccusedChoose fewer = Check.told("d00;p00017;p00027;b01;x01;a00;");
    fewer.image();
    fewer.addPerson(9, 127, 0);
    fewer.addDeed(5, 9);
    fewer.brothers(1, 2);
    fewer.alibi(2, 1);
    C.same("restore() of two", fewer.restore(), 2);
    C.sameText("restore()", seen(fewer), seen(Check.told("d00;p00017;p00027;b01;x01;a00;")));
    C.same("addPerson behind it", fewer.addPerson(1, 2, 3), 2);
    C.same("person(2, 3): nothing is left of another 2", fewer.person(2, 3), -9);
    C.same("person(2, 5): nothing is left of another 2", fewer.person(2, 5), 0);
    C.same("person(2, 4): nothing is left of another 2", fewer.person(2, 4), 2);
    C.same("addDeed behind it", fewer.addDeed(0, 0), 1);
    C.same("months(2, 1): nothing is left of another 1", fewer.months(2, 1), 1);
  }

  private static String seen(AccusedChoose x) {
    StringBuilder s = new StringBuilder();
    for (int person = 0; person < x.count(0); person++) {
      for (int what = 0; what <= 6; what++) {
        s.append(x.person(person, what)).append(' ');
      }
    }
    for (int deed = 0; deed < x.count(1); deed++) {
      s.append(x.deed(deed, 0)).append(x.deed(deed, 1)).append(' ');
    }
    return s.append(x.morning(1)).append(' ').append(x.allFromLast()).toString();
  }

  private static void imageOfNobody() {
    C.says("It is RESTORED: how many PEOPLE. -3 there is none.");
    AccusedChoose x = new AccusedChoose();
    C.same("restore(): there is none", x.restore(), -3);
    C.same("image() of nobody", x.image(), 0);
    Check.feedAll(x, FULL);
    x.night();
    C.same("count(0)", x.count(0), 7);
    C.same("restore() of nobody", x.restore(), 0);
    C.same("count(0)", x.count(0), 0);
    C.same("count(1)", x.count(1), 0);
    C.same("person(0, 0)", x.person(0, 0), -1);
    C.same("restore() once more: it stays", x.restore(), 0);
    C.same("addPerson: the first again", x.addPerson(3, 1, 7), 0);
    C.same("addDeed: the first again", x.addDeed(0, 9), 0);
    C.same("takes(0, 0)", x.takes(0, 0), 0);
    C.same("image() anew", x.image(), 1);
    x.alibi(0, 0);
    C.same("image() is not what it was at first", x.image(), 1);
    x.alibi(0, 0);
    C.same("restore()", x.restore(), 1);
    C.same("person(0, 5): as the last image has it", x.person(0, 5), 1);
  }

  private static void allButLettersAndRow() {
    C.says("all that there is of I, but it, letters, the ROW, REFUSALS");
    AccusedChoose x = Check.told(TWO);
    Check.feedAll(x, "d");
    x.row(0);
    x.person(9, 0);
    x.change(0, 1);
    C.same("image()", x.image(), 2);
    C.same("count(6): an image changes nothing", x.count(6), 1);
    Check.feedAll(x, "31");
    x.row(1);
    x.person(9, 0);
    x.change(0, 1);
    C.same("restore()", x.restore(), 2);
    C.same("count(4): letters stay", x.count(4), 3);
    C.same("count(5): the ROW stays", x.count(5), 2);
    C.same("count(11): REFUSALS stay", x.count(11), 2);
    C.same("count(6): nothing to take back", x.count(6), 0);
    C.same("person(0, 4)", x.person(0, 4), 1);
    x.feed(';');
    C.same("night(): the letters that stayed", x.night(), 1);
    C.same("deed(2, 0)", x.deed(2, 0), 3);
    C.same("restore(): the image stays", x.restore(), 2);
    C.same("count(1)", x.count(1), 2);
  }

  // ---- count

  private static void countOthers() {
    C.promise(51);
    C.says("11 .. 16 REFUSALS -1 .. -6. -9 for another what.");
    for (int what : new int[] {-1, -2, -9, LOW, 7, 8, 9, 10, 17, 18, 100, HIGH}) {
      AccusedChoose x = Check.busy(TWO);
      C.same("count(" + what + ")", x.count(what), -9);
      C.same("count(12): it is no REFUSAL", x.count(12), 0);
      C.sameText("count(" + what + ")", Trace.spend(x), Trace.spend(Check.busy(TWO)));
    }
    int[] full = {7, 7, 63, 49, 96, 12, 0};
    AccusedChoose x = Check.told(SEVEN_DEEDS + "p90007;".repeat(7));
    for (int i = 0; i < 49; i++) {
      x.alibi(i / 7, i % 7);
    }
    x.image();
    x.restore();
    for (int i = 0; i < 96; i++) {
      x.feed(i);
    }
    for (int i = 0; i < 12; i++) {
      x.row(0);
    }
    for (int what = 0; what < full.length; what++) {
      C.same("count(" + what + ") of all there can be", x.count(what), full[what]);
    }
    for (int i = 1; i <= 10; i++) {
      x.change(0, 1);
      C.same("count(6)", x.count(6), Math.min(i, 8));
    }
  }

  private static void countRefusals() {
    C.says("nothing changes but how many there were");
    AccusedChoose x = new AccusedChoose();
    x.deed(0, 0);
    x.morning(3);
    x.morning(4);
    x.back();
    x.back();
    x.back();
    for (int i = 0; i < 4; i++) {
      x.feed(-1);
    }
    for (int i = 0; i < 6; i++) {
      x.feed(256);
    }
    int[] due = {1, 2, 3, 4, 0, 6};
    for (int i = 0; i < due.length; i++) {
      C.same("count(" + (11 + i) + ")", x.count(11 + i), due[i]);
    }
    x.placeWorth(0);
    x.alibiWorth(0, 0);
    x.whose(0, 0);
    x.caught(1, 0, 0);
    x.caught(21, 0, 0);
    x.caught(2, 0, 2);
    int[] then = {4, 3, 3, 5, 0, 7};
    for (int i = 0; i < then.length; i++) {
      C.same("count(" + (11 + i) + ")", x.count(11 + i), then[i]);
    }
    C.says("(-1 as 1000000001), of longs 4000000000000000000 less them (-1 as 4000000000000000001)");
    C.same("placeWorth(0)", x.placeWorth(0), 1000000001L);
    C.same("alibiWorth(0, 0)", x.alibiWorth(0, 0), 1000000001L);
    C.same("whose(0, 0)", x.whose(0, 0), 4000000000000000001L);
    C.same("caught(1, 0, 0)", x.caught(1, 0, 0), 4000000000000000004L);
    C.same("caught(21, 0, 0)", x.caught(21, 0, 0), 4000000000000000006L);
    C.same("caught(2, 0, 2)", x.caught(2, 0, 2), 4000000000000000002L);
  }
}
