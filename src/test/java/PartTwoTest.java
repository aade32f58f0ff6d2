/** Promises 13 to 28: mornings, choosings, rules, orders, what an alibi is worth, who is caught. */
public final class PartTwoTest {
  private static final Check C = new Check("PartTwoTest");
  // 0 may own to 0 (1 month) and 1 (9 months), 1 only to 0.
  private static final String TWO = "d00;d04;p00037;p00017;";
  private static final String FIVE =
      "d03;d15;d29;d34;d48;d57;p41277;p00632;p90157;p50016;p20127;";
  private static final String GRAVE_OF_66 = "d39;p00017;";

  public static void main(String[] args) {
    mornings();
    least();
    fromLast();
    whose();
    rules();
    rulesAlike();
    places();
    changes();
    bestOrders();
    putIn();
    together();
    alibis();
    givenAway();
    caught();
    byCalls();
    C.end();
  }

  private static void mornings() {
    C.promise(13);
    AccusedChoose x = Check.told(FIVE);
    int[] takes = {0, 2, 5, -9, 3};
    int[] months = {7, 6, 13, 60, 39};
    for (int p = 0; p < 5; p++) {
      C.same("takes(" + p + ", 0)", x.takes(p, 0), takes[p]);
      C.same("takes(" + p + ", 1)", x.takes(p, 1), months[p]);
    }
    C.same("takes(0, 0): of two alike the least", Check.told("d11;d00;d00;p01277;").takes(0, 0), 1);
    C.same("takes(0, 0): also above 60", Check.told(GRAVE_OF_66).takes(0, 0), 0);
    C.same("takes(0, 1): also above 60", Check.told(GRAVE_OF_66).takes(0, 1), 66);
    C.promise(14);
    C.same("morning(0)", x.morning(0), 3);
    C.same("morning(1)", x.morning(1), 125);
    C.same("morning(2)", x.morning(2), 18);
    AccusedChoose y = Check.told("d00;p00007;p00017;p00007;x02;");
    C.same("morning(0): the first by ORDER", y.morning(0), 2);
    C.same("morning(0) with none", Check.told("d00;p00017;").morning(0), -9);
    C.same("morning(2) with nobody", Check.told("d00;d00;").morning(2), 3);
    x.change(0, 4);
    // 4, 1, 2, 3, 0: 4 takes 2 (9), 1 takes 0 (7), 2 takes 5 (13), 3 none, 0 takes 4 (9).
    C.same("morning(1)", x.morning(1), 98);
    C.same("takes(4, 0)", x.takes(4, 0), 2);
  }

  private static void least() {
    C.promise(15);
    AccusedChoose x = Check.told(FIVE);
    int[] takes = {4, 1, 5, 0, 2};
    C.same("least(-1)", x.least(-1), 52);
    for (int p = 0; p < 5; p++) {
      C.same("least(" + p + ")", x.least(p), takes[p]);
    }
    AccusedChoose two = Check.told(TWO);
    C.same("least(-1)", two.least(-1), 10);
    C.same("least(0)", two.least(0), 1);
    C.same("least(1)", two.least(1), 0);
    C.same("least(-1): none is less than a GRAVE", Check.told(GRAVE_OF_66).least(-1), 60);
    C.same("least(0): none is less than a GRAVE", Check.told(GRAVE_OF_66).least(0), -9);
    AccusedChoose alike = Check.told("d00;d00;p00037;p00037;");
    C.same("least(0): the first way", alike.least(0), 0);
    C.same("least(1): the first way", alike.least(1), 1);
    AccusedChoose one = Check.told("d00;p00017;p00017;x01;");
    C.same("least(0): by numbers, none behind all", one.least(0), 0);
    C.same("least(1): by numbers, none behind all", one.least(1), -9);
    String deeds = "d00;d01;d02;d03;d04;d05;d06;";
    String people = "p01277;p01277;p01277;p01277;p01277;p01277;p01277;";
    C.same("least(-1) of seven", Check.told(deeds + people).least(-1), 49);
    C.same("least(6) of seven", Check.told(deeds + people).least(6), 6);
    // A DEED of 60 for one and none for him are the same months; the DEED is the first.
    C.same("least(0): as many months as none", Check.told("d38;p00017;").least(0), 0);
  }

  private static void fromLast() {
    C.promise(16);
    AccusedChoose x = Check.told(TWO + "b01;");
    C.same("fromLast(0, 0)", x.fromLast(0, 0), 1);
    C.same("fromLast(0, 1)", x.fromLast(0, 1), 9);
    C.same("fromLast(1, 0)", x.fromLast(1, 0), 0);
    C.same("fromLast(1, 1)", x.fromLast(1, 1), 1);
    AccusedChoose y = Check.told(TWO);
    C.same("fromLast(0, 0) without a brother", y.fromLast(0, 0), 0);
    C.same("fromLast(1, 0) without a brother", y.fromLast(1, 0), -9);
    C.same("fromLast(1, 1) without a brother", y.fromLast(1, 1), 60);
    C.same("fromLast(0, 0): must take", Check.told(GRAVE_OF_66).fromLast(0, 0), 0);
    AccusedChoose z = Check.told("d00;d00;p00037;p00037;b01;");
    C.same("fromLast(0, 0): of several the least", z.fromLast(0, 0), 0);
    // One between the two does what is best for himself: 0 leaves his brother 2 nothing but 1.
    AccusedChoose v = Check.told("d00;d04;d05;p00077;p00017;p00027;b02;");
    C.same("fromLast(0, 0) with one between", v.fromLast(0, 0), 0);
    C.same("fromLast(1, 0) with one between", v.fromLast(1, 0), -9);
    C.same("fromLast(2, 1) with one between", v.fromLast(2, 1), 9);
    C.promise(17);
    C.same("allFromLast()", x.allFromLast(), 10);
    C.same("allFromLast()", y.allFromLast(), 61);
    C.same("allFromLast()", v.allFromLast(), 70);
    C.same("allFromLast() at once", Check.told(TWO + "b01;").allFromLast(), 10);
    C.same("allFromLast() of none", new AccusedChoose().allFromLast(), 0);
    x.change(0, 1);
    C.same("allFromLast(): the brother is ahead", x.allFromLast(), 10);
    C.same("fromLast(0, 0): the brother is ahead", x.fromLast(0, 0), 1);
  }

  private static void whose() {
    C.promise(18);
    AccusedChoose x = Check.told("d00;d00;p00036;p00036;p00030;");
    C.same("whose(-1, -1)", x.whose(-1, -1), 4);
    C.same("whose(2, 0)", x.whose(2, 0), 2);
    C.same("whose(2, 1)", x.whose(2, 1), 0);
    C.same("whose(0, 1)", x.whose(0, 1), 2);
    C.same("whose(0, 0)", x.whose(0, 0), 1);
    C.same("whose: more deeds than people", Check.told("d00;d00;p00036;").whose(-1, -1), 0);
    C.same("whose: one did none", Check.told("d00;p00017;").whose(-1, -1), 0);
    C.same("whose: one did it", Check.told("d00;p00010;").whose(0, 0), 1);
    C.same("whose: an alibi", Check.told("d00;p00016;a00;").whose(-1, -1), 0);
    C.same("whose: a forgery", Check.told("d50;p00006;").whose(-1, -1), 1);
    C.same("whose: no deeds", Check.told("p00017;").whose(-1, -1), 1);
    String six = "d00;d00;d00;d00;d00;d00;";
    String seven = "p01276;p01276;p01276;p01276;p01276;p01276;p01276;";
    C.same("whose: six of seven", Check.told(six + seven).whose(-1, -1), 5040);
    C.same("whose: six of seven", Check.told(six + seven).whose(6, 5), 720);
  }

  private static void rules() {
    C.promise(19);
    // A FORGERY of 22 months for 0, 17 for 1, 20 for 2, who DID some DEED.
    AccusedChoose x = Check.told("d59;p01277;p91277;p41276;");
    int[] all = {142, 142, 137, 140, 142};
    int[] unfair = {-9, -9, -9, 2, -9};
    for (int rule = 0; rule < 5; rule++) {
      C.same("rule(" + rule + ", 0)", x.rule(rule, 0), all[rule]);
      C.same("rule(" + rule + ", 1)", x.rule(rule, 1), unfair[rule]);
    }
    C.promise(20);
    C.same("bestRule()", x.bestRule(), 2);
    x.change(0, 2);
    all[0] = 140;
    unfair[0] = 2;
    C.promise(19);
    for (int rule = 0; rule < 5; rule++) {
      C.same("rule(" + rule + ", 0), changed", x.rule(rule, 0), all[rule]);
      C.same("rule(" + rule + ", 1), changed", x.rule(rule, 1), unfair[rule]);
    }
    C.same("rule(0, 1): the second is the other", Check.told("d59;p01276;p01277;").rule(0, 1), 10);
    C.same("rule(1, 0): a record of 9", Check.told("d19;d19;p91277;p01277;").rule(1, 0), 48);
    C.same("rule(3, 1) of nobody", new AccusedChoose().rule(3, 1), -9);
  }

  private static void rulesAlike() {
    AccusedChoose x = Check.told("d59;p01277;p01276;x01;");
    int[] unfair = {1, -9, -9, 1, -9};
    for (int rule = 0; rule < 5; rule++) {
      C.same("rule(" + rule + ", 1)", x.rule(rule, 1), unfair[rule]);
    }
    AccusedChoose none = Check.told("d59;p01277;p91277;x01;");
    AccusedChoose some = Check.told("d59;p01276;p91276;x01;");
    int[] all = {77, 82, 77, 82, 82};
    for (int rule = 0; rule < 5; rule++) {
      C.same("rule(" + rule + ", 0), none did", none.rule(rule, 0), all[rule]);
      C.same("rule(" + rule + ", 0), some did", some.rule(rule, 0), all[rule]);
    }
    C.promise(20);
    C.same("bestRule(): of several the least", none.bestRule(), 0);
    C.same("bestRule()", Check.told("d59;p91277;p01277;x01;").bestRule(), 2);
    C.same("bestRule()", Check.told("d19;p91277;p01277;").bestRule(), 1);
    C.same("bestRule()", Check.told("d09;p01277;p01270;").bestRule(), 3);
    C.same("bestRule()", Check.told("d00;d04;p00036;p00017;").bestRule(), 4);
    C.same("bestRule() of nobody", new AccusedChoose().bestRule(), 0);
  }

  private static void places() {
    C.promise(21);
    AccusedChoose x = Check.told(TWO);
    C.same("placeWorth(0)", x.placeWorth(0), 8);
    C.same("placeWorth(1)", x.placeWorth(1), 59);
    C.same("placeWorth(0): below 0", Check.told("d39;p00017;p00017;").placeWorth(0), -6);
    C.same("placeWorth(0): alone", Check.told("d00;p00017;").placeWorth(0), 0);
  }

  private static void changes() {
    C.promise(22);
    // 0 would rather be WITHOUT than own to 66 months, 1 DID it.
    C.same("changes(): both fewer", Check.told("d39;p00017;p00010;").changes(), 1);
    C.same("changes(): one as many", Check.told("d00;d00;p00037;p00017;").changes(), 1);
    C.same("changes(): the other as many", Check.told("d00;d00;p00017;p00037;x01;").changes(), 1);
    C.same("changes(): one more", Check.told(TWO).changes(), -9);
    C.same("changes(): both as many", Check.told("d00;p00007;p00007;").changes(), -9);
    // 0 has as many behind 1, where 2 or 3 is ahead of 1: 2 is the first of these.
    C.same("changes(): the first two",
        Check.told("d00;d00;p00007;p00037;p00017;p00017;").changes(), 2);
    C.same("changes(): by one month", Check.told("d00;d22;d00;p00057;p00037;").changes(), 1);
    // The same two, but 0 stands behind them and has a DEED of his own.
    C.same("changes(): not with 0",
        Check.told("d00;d22;d00;d00;p00087;p00057;p00037;x01;x02;").changes(), 12);
    C.same("changes() of nobody", new AccusedChoose().changes(), -9);
  }

  private static void bestOrders() {
    C.promise(23);
    AccusedChoose x = Check.told(TWO);
    C.same("bestOrder(-1)", x.bestOrder(-1), 10);
    C.same("bestOrder(0)", x.bestOrder(0), 1);
    C.same("bestOrder(1)", x.bestOrder(1), 0);
    C.same("bestOrder(2)", x.bestOrder(2), -9);
    C.same("bestOrder(greatest)", x.bestOrder(Integer.MAX_VALUE), -9);
    AccusedChoose y = Check.told("d00;p00017;p00017;p00017;x02;");
    C.same("bestOrder(0): the first by PEOPLE", y.bestOrder(0), 0);
    C.same("bestOrder(2): the first by PEOPLE", y.bestOrder(2), 2);
    C.same("bestOrder(-1) of nobody", new AccusedChoose().bestOrder(-1), 0);
    C.same("bestOrder(0) of nobody", new AccusedChoose().bestOrder(0), -9);
    AccusedChoose z = Check.told("d09;d37;p00017;p20030;");
    C.same("bestOrder(-1)", z.bestOrder(-1), 73);
    C.same("bestOrder(0)", z.bestOrder(0), 1);
    // Only with the last one first and the first one last do all five find one.
    AccusedChoose v = Check.told("d00;d01;d02;d03;d04;p01277;p00157;p00077;p00037;p00017;");
    for (int i = 0; i < 5; i++) {
      C.same("bestOrder(" + i + ")", v.bestOrder(i), 4 - i);
    }
    C.same("bestOrder(-1)", v.bestOrder(-1), 25);
  }

  private static void putIn() {
    C.promise(24);
    C.same("putIn(0, 0)", Check.told(TWO).putIn(0, 0), 1);
    C.same("putIn(0, 1)", Check.told(TWO).putIn(0, 1), 5);
    C.same("putIn(9, 1)", Check.told(TWO).putIn(9, 1), 23);
    C.same("putIn(0, 0): nobody is without", Check.told("d00;p00017;").putIn(0, 0), 0);
    C.same("putIn(0, 1): nobody is without", Check.told("d00;p00017;").putIn(0, 1), 1);
    C.same("putIn(0, 0): the first takes the light one",
        Check.told("d09;p00017;p00007;").putIn(0, 0), 2);
    C.same("putIn(0, 1)", Check.told("d09;p00017;p00007;").putIn(0, 1), 8);
    C.same("putIn(9, 0): the first keeps his", Check.told("d09;p00017;p00007;").putIn(9, 0), 1);
    String deeds = "d00;d00;d00;d00;d00;d00;d00;";
    String none = "p00007;p00007;p00007;p00007;p00007;p00007;p00007;";
    AccusedChoose x = Check.told(deeds + none);
    C.same("putIn(0, 0): 14 deeds", x.putIn(0, 0), 7);
    C.same("putIn(0, 1): 14 deeds", x.putIn(0, 1), 28);
    C.same("count(1): none stays", x.count(1), 7);
    C.same("morning(1): none stays", x.morning(1), 420);
    C.same("putIn(9, 1): a DID of 7 is none", Check.told(deeds + "p00007;").putIn(9, 1), 22);
    AccusedChoose y = Check.told("p00007;p00007;p00007;p00003;");
    C.same("putIn(9, 1): nobody DID these", y.putIn(9, 1), 88);
    C.same("putIn(9, 1): 0 DID none of these", Check.told("p00000;").putIn(9, 1), 22);
    C.same("putIn(0, 0) with nobody", new AccusedChoose().putIn(0, 0), 0);
  }

  private static void together() {
    C.promise(25);
    AccusedChoose x = Check.told(TWO);
    int[] months = {0, 1, 60, 10};
    int[] gain = {0, 0, 0, 51};
    for (int set = 0; set < 4; set++) {
      C.same("together(" + set + ", 0)", x.together(set, 0), months[set]);
      C.same("together(" + set + ", 1)", x.together(set, 1), gain[set]);
    }
    // 0 and 2 leave 1 without any; all three together each find one.
    AccusedChoose y = Check.told("d00;d04;d05;p01277;p00027;p00017;");
    C.same("together(5, 0)", y.together(5, 0), 10);
    C.same("together(5, 1)", y.together(5, 1), 51);
    C.same("together(7, 0)", y.together(7, 0), 21);
    C.same("together(7, 1)", y.together(7, 1), 49);
    C.same("together(1, 0): must take", Check.told(GRAVE_OF_66).together(1, 0), 66);
    C.same("together(3, 0): the first finds none",
        Check.told("d00;p00007;p00017;").together(3, 0), 61);
    C.same("together(127, 0)", Check.told("d00;d01;d02;d03;d04;d05;d06;"
        + "p01277;p01277;p01277;p01277;p01277;p01277;p01277;").together(127, 0), 49);
    C.same("together(0, 0) of nobody", new AccusedChoose().together(0, 0), 0);
    y.change(0, 2);
    C.same("together(5, 0): 2 is the first", y.together(5, 0), 12);
  }

  private static void alibis() {
    C.promise(26);
    C.same("alibiWorth(0, 0)", Check.told(TWO).alibiWorth(0, 0), -51);
    C.same("alibiWorth(0, 1)", Check.told(TWO).alibiWorth(0, 1), 0);
    C.same("alibiWorth(1, 0)", Check.told(TWO).alibiWorth(1, 0), 0);
    C.same("alibiWorth: one more", Check.told("d00;p00017;").alibiWorth(0, 0), 59);
    AccusedChoose x = Check.told("d00;p00017;a00;");
    C.same("alibiWorth: lost", x.alibiWorth(0, 0), -59);
    C.same("count(3): it stays", x.count(3), 1);
  }

  private static void givenAway() {
    C.promise(27);
    C.same("givenAway()", Check.told("d00;p00017;a00;").givenAway(), 0);
    C.same("givenAway(): the most", Check.told(TWO + "a00;a10;").givenAway(), 10);
    C.same("givenAway(): the DEED too", Check.told("d09;d00;p00037;a00;a01;").givenAway(), 1);
    C.same("givenAway(): of several the least",
        Check.told("d00;p00017;p00017;a00;a10;").givenAway(), 0);
    C.same("givenAway(): no alibi", Check.told(TWO).givenAway(), -9);
    C.same("givenAway(): not fewer", Check.told("d00;p00007;a00;").givenAway(), -9);
  }

  private static void odds(AccusedChoose x, int t, int k, long above, long below) {
    C.same("caught(" + t + ", " + k + ", 0)", x.caught(t, k, 0), above);
    C.same("caught(" + t + ", " + k + ", 1)", x.caught(t, k, 1), below);
  }

  /** What would be if is reckoned from the night as it is, not as it was last told. */
  private static void byCalls() {
    C.promise(24);
    C.same("putIn(0, 1)", Check.made(TWO).putIn(0, 1), 5);
    C.promise(26);
    C.same("alibiWorth(0, 0)", Check.made(TWO).alibiWorth(0, 0), -51);
    C.promise(27);
    C.same("givenAway()", Check.made(TWO + "a00;a10;").givenAway(), 10);
    C.promise(16);
    C.same("fromLast(0, 0)", Check.made(TWO + "b01;").fromLast(0, 0), 1);
    C.promise(13);
    C.same("takes(0, 0)", Check.made(TWO + "a00;x01;").takes(0, 0), 1);
  }

  private static void caught() {
    C.promise(28);
    AccusedChoose x = Check.told("d00;d01;p00037;p00037;");
    odds(x, 3, 0, 4, 9);
    odds(x, 3, 1, 4, 9);
    odds(x, 3, 2, 1, 9);
    odds(x, 3, 3, 0, 1);
    odds(x, 2, 1, 1, 2);
    odds(Check.told("d00;p00010;"), 2, 0, 1, 1);
    odds(Check.told("d00;p00010;"), 2, 1, 0, 1);
    odds(Check.told("d00;p00011;"), 4, 1, 1, 4);
    odds(Check.told("d00;p00017;p00017;"), 5, 0, 4, 5);
    String deeds = "d00;d00;d00;d00;d00;d00;d00;";
    String all = "p01277;p01277;p01277;p01277;p01277;p01277;p01277;";
    AccusedChoose y = Check.told(deeds + all);
    odds(y, 20, 0, 893871739L, 1280000000L);
    odds(y, 20, 1, 329321167L, 1280000000L);
    odds(y, 20, 7, 1, 1280000000L);
    odds(y, 2, 3, 35, 128);
    odds(new AccusedChoose(), 2, 0, 1, 1);
  }
}
