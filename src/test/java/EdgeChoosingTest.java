/** Part II at its edges: each case behind the words of the document that name it. */
public final class EdgeChoosingTest {
  private static final Check C = new Check("EdgeChoosingTest");
  // Seven DEEDS of 1, 3, .. 13 months and seven who COULD all: 0 takes 0, 1 takes 1, ..
  private static final String SEVEN_DEEDS = "d00;d01;d02;d03;d04;d05;d06;";
  private static final String SEVEN_PEOPLE =
      "p01277;p01277;p01277;p01277;p01277;p01277;p01277;";
  private static final String FULL = SEVEN_DEEDS + SEVEN_PEOPLE;
  private static final String NOBODY_MAY = SEVEN_DEEDS + "p00007;".repeat(7);
  private static final String GRAVE_OF_66 = "d39;p00017;";
  private static final String GRAVE_OF_60 = "d38;p00017;";
  private static final String[] NIGHTS = {"", "d00;", "p01277;", FULL, NOBODY_MAY, SEVEN_DEEDS,
      SEVEN_PEOPLE};

  public static void main(String[] args) {
    ofSeveralTheLeast();
    heIsWithout();
    firstWithout();
    deedsNobodyTakes();
    leastOrNone();
    leastFirstWay();
    leastEmptyAndFull();
    lastBackMustTake();
    lastBackTogether();
    lastBackLikewise();
    lastBackEmptyAndFull();
    whoseNobodyTwo();
    whoseDid();
    whoseEmptyAndFull();
    rulesAlike();
    rulesDid();
    unfair();
    bestRuleOfSeveral();
    place();
    change();
    bestOrder();
    putInFewest();
    putInSevenAlwaysDo();
    putInNobodyDid();
    togetherTurns();
    togetherEmptyAndFull();
    alibi();
    givenAway();
    caughtWhom();
    caughtFractions();
    caughtEdges();
    askedBehindMore();
    C.end();
  }

  // ---- A MORNING

  private static void taking(String night, int person, int deed, int months) {
    C.takes(night, "takes(" + person + ", 0)", x -> x.takes(person, 0), deed);
    C.takes(night, "takes(" + person + ", 1)", x -> x.takes(person, 1), months);
  }

  private static void ofSeveralTheLeast() {
    C.promise(13);
    C.says("that with the fewest MONTHS for him, of several the least; none: he is WITHOUT.");
    taking("d05;d00;d00;d00;p01277;", 0, 1, 1);
    taking("d05;d00;d00;d00;p01277;p01277;", 1, 2, 1);
    taking("d00;d00;p00027;", 0, 1, 1);
    // A THEFT of 4, a DEED of 5 and a FOG of 4; a DEED that he DID of 2 and a LIGHT of 2.
    taking("d02;d10;d43;p00077;", 0, 1, 4);
    taking("d01;d22;p00030;", 0, 0, 2);
    taking("d22;d01;p00031;", 0, 0, 2);
    // A LIGHT of no months is the fewest there can be.
    taking("d00;d20;d20;p00077;", 0, 1, 0);
  }

  private static void heIsWithout() {
    C.says("none: he is WITHOUT");
    taking("p01277;", 0, -9, 60);
    taking("d00;p01267;", 0, -9, 60);
    taking("d00;p00017;a00;", 0, -9, 60);
    taking("d00;p00017;p00017;", 1, -9, 60);
    taking("d50;p00007;a00;", 0, -9, 60);
    taking("d00;p00010;a00;", 0, -9, 60);
    C.says("A MORNING: by ORDER each takes, of DEEDS that nobody took and that he MAY");
    taking(GRAVE_OF_66, 0, 0, 66);
    taking("d39;p90017;", 0, 0, 78);
    taking("d50;p00007;", 0, 0, 4);
    for (int person = 0; person < 7; person++) {
      taking(FULL, person, person, 2 * person + 1);
      taking(NOBODY_MAY, person, -9, 60);
    }
  }

  private static void morning(String night, int first, int all, int left) {
    C.takes(night, "morning(0) of " + night, x -> x.morning(0), first);
    C.takes(night, "morning(1) of " + night, x -> x.morning(1), all);
    C.takes(night, "morning(2) of " + night, x -> x.morning(2), left);
  }

  private static void firstWithout() {
    C.promise(14);
    C.says("the first (by ORDER) WITHOUT; -9; all MONTHS together; DEEDS nobody takes (bits)");
    morning("", -9, 0, 0);
    morning("p00007;", 0, 60, 0);
    morning("p00007;p00007;x01;", 1, 120, 0);
    morning("d00;p00017;p00007;p00007;x12;", 2, 121, 0);
    morning("d00;p00017;p00017;x01;", 0, 61, 0);
    morning(FULL, -9, 49, 0);
    morning(NOBODY_MAY, 0, 420, 127);
    morning(NOBODY_MAY + "x06;", 6, 420, 127);
    morning(SEVEN_PEOPLE, 0, 420, 0);
  }

  private static void deedsNobodyTakes() {
    C.says("DEEDS nobody takes (bits)");
    morning("d00;", -9, 0, 1);
    morning(SEVEN_DEEDS, -9, 0, 127);
    morning(SEVEN_DEEDS + "p01277;", -9, 1, 126);
    morning(SEVEN_DEEDS + "p00647;", -9, 13, 63);
    morning(SEVEN_DEEDS + "p01277;p01277;p01277;p01277;p01277;p01277;", -9, 36, 64);
  }

  // ---- LEAST

  private static void least(String night, int... due) {
    for (int i = 0; i < due.length; i++) {
      int person = i - 1;
      C.takes(night, "least(" + person + ") of " + night, x -> x.least(person), due[i]);
    }
  }

  private static void leastOrNone() {
    C.promise(15);
    C.says("each takes one he MAY or none (60), no DEED twice: the fewest MONTHS in all");
    least("d00;p00017;", 1, 0);
    least("d00;p00007;", 60, -9);
    least("d00;p00017;a00;", 60, -9);
    least("d50;p00007;", 4, 0);
    least("d00;p00017;p00017;", 61, 0, -9);
    least(GRAVE_OF_66, 60, -9);
    least("d39;p00010;", 44, 0);
    // 0 leaves 0 for 1, who may no other; by a MORNING 1 would be WITHOUT.
    least("d00;d04;p00037;p00017;", 10, 1, 0);
    // 1 is better without any than by the GRAVE that 0 leaves him.
    least("d00;d39;p00017;p00037;", 61, 0, -9);
  }

  private static void leastFirstWay() {
    C.says("the first such way (by numbers of PEOPLE, of each the least DEED, none behind all)");
    // 60 by the GRAVE and 60 by none: none is behind all.
    least(GRAVE_OF_60, 60, 0);
    least("d38;d38;p00037;", 60, 0);
    least("d00;d00;p00037;p00037;", 2, 0, 1);
    least("d00;d00;p00027;p00037;", 2, 1, 0);
    // Whoever has none, it is 61: 0 has the DEED, also where 1 is the first in ORDER.
    least("d00;p00017;p00017;x01;", 61, 0, -9);
    // 0 with 0 and 1 with 1, or the other way round: 4 either way.
    least("d00;d01;p00037;p00037;", 4, 0, 1);
    least("d01;d00;p00037;p00037;", 4, 0, 1);
    least("d01;d00;p00037;p00037;x01;", 4, 0, 1);
    // Two of the three have one: in the first such way 0 and 1, though 2 may no other than 1.
    least("d00;d00;p00037;p00037;p00027;", 62, 0, 1, -9);
  }

  private static void leastEmptyAndFull() {
    C.says("LEAST: MONTHS (person -1), what one takes (-9).");
    least("", 0);
    least("d00;", 0);
    least("p01277;", 60, -9);
    least(FULL, 49, 0, 1, 2, 3, 4, 5, 6);
    least(NOBODY_MAY, 420, -9, -9, -9, -9, -9, -9, -9);
    least("d00;" + SEVEN_PEOPLE, 361, 0, -9, -9, -9, -9, -9, -9);
    least(SEVEN_DEEDS + "p01277;", 1, 0);
    // Each COULD just one, the last one first.
    least(SEVEN_DEEDS + "p00647;p00327;p00167;p00087;p00047;p00027;p00017;",
        49, 6, 5, 4, 3, 2, 1, 0);
    // 0 COULD all and is left what the others can't: the DEED 6.
    least(SEVEN_DEEDS + "p01277;p00017;p00027;p00047;p00087;p00167;p00327;",
        49, 6, 0, 1, 2, 3, 4, 5);
  }

  // ---- FROM THE LAST BACK

  private static void lastBack(String night, int all, int... due) {
    C.takes(night, "allFromLast() of " + night, x -> x.allFromLast(), all);
    int sum = 0;
    for (int i = 0; i < due.length; i++) {
      int person = i;
      int deed = due[i];
      int his = deed == -9 ? 60 : Check.told(night).months(person, deed);
      C.takes(night, "fromLast(" + i + ", 0) of " + night, x -> x.fromLast(person, 0), deed);
      C.takes(night, "fromLast(" + i + ", 1) of " + night, x -> x.fromLast(person, 1), his);
      sum += his;
    }
    C.same("all MONTHS are of all of " + night, sum, all);
  }

  private static void lastBackMustTake() {
    C.promise(16);
    C.says("or none (only if there is none)");
    lastBack("p01277;", 60, -9);
    lastBack("d00;p00007;", 60, -9);
    lastBack("d00;p00017;p00017;", 61, 0, -9);
    lastBack(GRAVE_OF_66, 66, 0);
    // 0 must take the only one, though his BROTHER would have fewer by it.
    lastBack("d00;p00017;p00017;b01;", 61, 0, -9);
    lastBack("d39;p00017;p00010;b01;", 126, 0, -9);
    C.says("of several the least DEED");
    lastBack("d00;d00;p00037;", 1, 0);
    lastBack("d00;d00;p00037;p00037;b01;", 2, 0, 1);
    lastBack("d05;d00;d00;p00077;p00077;b01;", 2, 1, 2);
    // 0 with 1 and 1 with 0, or the other way round: 4 either way.
    lastBack("d01;d00;p00037;p00037;b01;", 4, 0, 1);
    lastBack("d01;d00;p00037;p00037;", 4, 1, 0);
  }

  private static void lastBackTogether() {
    C.says("so that his MONTHS and his BROTHER's together, as all behind him will choose likewise, "
        + "are fewest");
    String two = "d00;d04;p00037;p00017;";
    lastBack(two, 61, 0, -9);
    lastBack(two + "b01;", 10, 1, 0);
    lastBack(two + "b01;x01;", 10, 1, 0);
    // The BROTHER is ahead: what he has stays, whatever is taken behind him.
    lastBack("d00;d04;p00017;p00037;b01;", 10, 0, 1);
    // 1 would pay 9 more for 0's sake, and saves him 51; no more than 59 would be saved by 70.
    lastBack("d00;d39;p00037;p00017;b01;", 61, 0, -9);
    lastBack("d00;d38;p00037;p00017;b01;", 61, 0, -9);
    lastBack("d00;d37;p00037;p00017;b01;", 55, 1, 0);
  }

  private static void lastBackLikewise() {
    // 0 leaves 0 for his BROTHER 2, but 1 ahead of him takes it.
    lastBack("d00;d04;p00037;p00017;p00017;b02;", 121, 0, -9, -9);
    // 1 will leave 0 for his BROTHER 3; 0, whose BROTHER is 2, leaves him 2 as by a MORNING.
    lastBack("d00;d04;d05;p00047;p00037;p00027;p00017;b02;b13;", 81, 2, 1, -9, 0);
    // Three pairs, one inside the other, and crossed: each leaves his BROTHER the one he may.
    String deeds = "d00;d01;d02;d03;d04;d05;";
    lastBack(deeds + "p00097;p00187;p00367;p00047;p00027;p00017;b05;b14;b23;", 36, 3, 4, 5, 2, 1, 0);
    lastBack(deeds + "p00097;p00187;p00367;p00017;p00027;p00047;b03;b14;b25;", 36, 3, 4, 5, 0, 1, 2);
    // Where they COULD all, 1 would take what 0 leaves for 0's BROTHER, and 2 what 1 leaves.
    lastBack(deeds + "p00637;p00637;p00637;p00047;p00027;p00017;b05;b14;b23;",
        136, 0, 1, 3, 2, -9, -9);
    lastBack(deeds + "p00637;p00637;p00637;p00017;p00027;p00047;b03;b14;b25;",
        136, 0, 1, 3, -9, -9, 2);
  }

  private static void lastBackEmptyAndFull() {
    lastBack("", 0);
    lastBack("d00;", 0);
    lastBack(FULL, 49, 0, 1, 2, 3, 4, 5, 6);
    lastBack(FULL + "x06;", 49, 6, 1, 2, 3, 4, 5, 0);
    lastBack(NOBODY_MAY, 420, -9, -9, -9, -9, -9, -9, -9);
    lastBack(NOBODY_MAY + "b06;b15;b24;", 420, -9, -9, -9, -9, -9, -9, -9);
    // 0 can't spare 6 any of what five others take first: his own least is best.
    lastBack(FULL + "b06;", 49, 0, 1, 2, 3, 4, 5, 6);
  }

  // ---- WHOSE

  private static void ways(String night, long due) {
    C.takes(night, "whose(-1, -1) of " + night, x -> x.whose(-1, -1), due);
  }

  private static void whose(String night, int person, int deed, long due) {
    C.takes(night, "whose(" + person + ", " + deed + ") of " + night, x -> x.whose(person, deed), due);
  }

  private static void whoseNobodyTwo() {
    C.promise(18);
    C.says("in how many ways each DEED can have been done by one who MAY have, nobody two");
    // DID 6 is no DEED that there is: such a one can have done any that he MAY.
    ways("d00;p00016;", 1);
    ways("d00;p00006;", 0);
    ways("d00;p00016;a00;", 0);
    ways("d50;p00006;", 1);
    ways("d50;p00006;a00;", 0);
    ways("d00;d00;p00036;p00036;", 2);
    ways("d00;d00;p00036;p00016;", 1);
    ways("d00;d00;p00016;p00016;", 0);
    whose("d00;d00;p00036;p00016;", 0, 1, 1);
    whose("d00;d00;p00036;p00016;", 0, 0, 0);
    whose("d00;d00;p00036;p00016;", 1, 1, 0);
    C.says("0 if there are more DEEDS than can");
    ways("d00;", 0);
    ways(SEVEN_DEEDS, 0);
    ways("d00;d00;p00036;", 0);
    ways("d00;d00;d00;p00076;p00076;", 0);
    whose("d00;d00;p00036;", 0, 0, 0);
    whose("d00;d00;p00036;p00037;", 0, 0, 0);
  }

  private static void whoseDid() {
    C.says("(one who DID a DEED that there is: just that; who DID none: none)");
    ways("d00;d00;p00030;p00031;", 1);
    ways("d00;d00;p00030;p00030;", 0);
    ways("d00;p00010;p00010;", 2);
    whose("d00;p00010;p00010;", 0, 0, 1);
    whose("d00;p00010;p00010;", 1, 0, 1);
    ways("d00;p00017;", 0);
    ways("d00;p00017;p00016;", 1);
    whose("d00;p00017;p00016;", 0, 0, 0);
    whose("d00;p00017;p00016;", 1, 0, 1);
    // 1 DID just the last DEED that there is.
    ways("d00;d00;p00036;p00031;", 1);
    whose("d00;d00;p00036;p00031;", 1, 0, 0);
    whose("d00;d00;p00036;p00031;", 1, 1, 1);
    // When the DEED comes that he DID, it is just that.
    AccusedChoose x = Check.told("d00;p00031;p00036;");
    C.same("whose(-1, -1)", x.whose(-1, -1), 2);
    C.same("whose(0, 0)", x.whose(0, 0), 1);
    x.addDeed(0, 0);
    C.same("whose(-1, -1) behind addDeed", x.whose(-1, -1), 1);
    C.same("whose(0, 0) behind addDeed", x.whose(0, 0), 0);
    C.same("whose(0, 1) behind addDeed", x.whose(0, 1), 1);
  }

  private static void whoseEmptyAndFull() {
    C.says("WHOSE: ways (person -1, deed -1), with one and a DEED.");
    ways("", 1);
    ways("p01277;", 1);
    ways(SEVEN_PEOPLE, 1);
    String six = "d00;".repeat(6);
    ways(six + "p01276;".repeat(7), 5040);
    ways(six + "p01276;".repeat(6), 720);
    ways(six + "p01276;".repeat(5), 0);
    for (int i = 0; i < 6; i++) {
      whose(six + "p01276;".repeat(7), i + 1, i, 720);
      whose(six + "p01276;".repeat(6), i, i, 120);
    }
    String each = SEVEN_DEEDS + "p01270;p01271;p01272;p01273;p01274;p01275;p01276;";
    ways(each, 1);
    whose(each, 6, 6, 1);
    whose(each, 6, 5, 0);
    ways(FULL, 0);
    whose(FULL, 6, 6, 0);
    ways("d00;" + "p01276;".repeat(7), 7);
    whose("d00;" + "p01276;".repeat(7), 6, 0, 1);
  }

  // ---- RULES

  private static void rules(String night, int... due) {
    for (int i = 0; i <= 4; i++) {
      int rule = i;
      C.takes(night, "rule(" + rule + ", 0) of " + night, x -> x.rule(rule, 0), due[rule]);
    }
  }

  private static void unfairBy(String night, int... due) {
    for (int i = 0; i <= 4; i++) {
      int rule = i;
      C.takes(night, "rule(" + rule + ", 1) of " + night, x -> x.rule(rule, 1), due[rule]);
    }
  }

  private static void rulesAlike() {
    C.promise(19);
    C.says("1 RECORD rising; 2 RECORD falling (alike ones by numbers)");
    // A THEFT of 4 for 0, 4 for 1 and 8 for 2: whoever is the first has it.
    rules("d10;p00017;p10017;p90017;x02;", 128, 124, 128, 124, 124);
    rules("d10;p90017;p10017;p00017;", 128, 124, 128, 128, 128);
    // A THEFT of 6, and 4 for who DID it. Alike ones stand by numbers, whatever the ORDER is.
    rules("d10;p50010;p50017;p50017;x02;", 126, 124, 124, 124, 126);
    rules("d10;p50017;p50017;p50010;x02;", 124, 126, 126, 124, 126);
    // A THEFT of 26 for a RECORD of 9, of 22 for one of 0: both find one by each RULE.
    rules("d19;d19;p91277;p01277;", 48, 48, 48, 48, 48);
    rules("d19;d19;p01277;p91277;x01;", 48, 48, 48, 48, 48);
    rules("", 0, 0, 0, 0, 0);
    rules(FULL, 49, 49, 49, 49, 49);
    rules(NOBODY_MAY, 420, 420, 420, 420, 420);
    // RECORDS 9 .. 3 and a FORGERY of 17, 18, 18, 19, 19, 20, 20.
    rules("d59;p90007;p80007;p70007;p60007;p50007;p40007;p30007;", 377, 380, 377, 377, 377);
  }

  private static void rulesDid() {
    C.says("3 who DID some DEED first; 4 who DID none first (by numbers each)");
    // A FORGERY of 22 for RECORD 0, 17 for 9.
    rules("d59;p00007;p90006;", 82, 82, 77, 77, 82);
    rules("d59;p90006;p00007;", 77, 82, 77, 77, 82);
    // By numbers among those who DID some, and among those who DID none.
    rules("d59;p90006;p00006;p90007;p00007;x01;x23;", 202, 202, 197, 197, 197);
    rules("d59;p00006;p90006;p00007;p90007;x01;x23;", 197, 202, 197, 202, 202);
    // A DID of 0 and one of 6 are both some.
    rules("d59;p00007;p90000;", 82, 82, 72, 72, 82);
  }

  private static void unfair() {
    C.says("UNFAIR: the first two (10 the first and the other) of whom the first DID none, "
        + "the other some, and the first has more MONTHS; -9");
    unfairBy("", -9, -9, -9, -9, -9);
    unfairBy("d00;p00017;", -9, -9, -9, -9, -9);
    unfairBy("d00;p00017;p00017;", -9, -9, -9, -9, -9);
    unfairBy("d00;p00016;p00016;", -9, -9, -9, -9, -9);
    // 0 DID none and is WITHOUT, if 1 who DID some is ahead.
    unfairBy("d00;p00017;p00010;x01;", 1, -9, -9, 1, -9);
    unfairBy("d00;p00010;p00017;", 10, 10, 10, 10, -9);
    // As many MONTHS are no more.
    unfairBy("d00;d00;p00017;p00026;", -9, -9, -9, -9, -9);
    unfairBy("p00017;p00016;", -9, -9, -9, -9, -9);
    // The one who has more DID some: that is not unfair.
    unfairBy("d00;d01;p00017;p00026;x01;", -9, -9, -9, -9, -9);
    // 1 and 2 DID none and have more than 3 and 4 who DID some: the first two are 1 and 3.
    unfairBy("d00;d00;p00006;p00007;p00007;p00016;p00026;", 13, 13, 13, 13, 13);
    unfairBy(SEVEN_DEEDS + "p00016;p00026;p00046;p00086;p00166;p00326;p00007;",
        60, 60, 60, 60, 60);
    // 5 DID some and has a DEED only where he is the first; the first that has more then is 0.
    unfairBy("d50;p00007;p00007;p00007;p00007;p00007;p00006;p00007;a00;", -9, -9, -9, 5, -9);
    // Of all twos only the last: 6 has 60 and 5 has 1, 0 .. 4 DID some and have 60.
    unfairBy("d00;p00006;p00006;p00006;p00006;p00006;p00016;p00007;", 65, 65, 65, 65, 65);
  }

  private static void bestRuleOfSeveral() {
    C.promise(20);
    C.says("BEST: the RULE with the fewest MONTHS, of several the least.");
    for (String night : NIGHTS) {
      C.takes(night, "bestRule() of " + night, x -> x.bestRule(), 0);
    }
    best("d10;p90017;p00017;", 1);
    best("d10;p90017;p10017;p00017;", 1);
    best("d59;p00007;p90007;", 2);
    best("d59;p00007;p90006;", 2);
    best("d04;p00017;p00010;", 3);
    best("d00;d04;p00036;p00017;", 4);
  }

  private static void best(String night, int due) {
    C.takes(night, "bestRule() of " + night, x -> x.bestRule(), due);
  }

  // ---- places and orders

  private static void placeWorth(String night, int person, int due) {
    C.takes(night, "placeWorth(" + person + ") of " + night, x -> x.placeWorth(person), due);
  }

  private static void place() {
    C.promise(21);
    C.says("by how many MONTHS fewer one has as the first in ORDER than as the last "
        + "(the others as they are in ORDER; may be below 0)");
    placeWorth("p00007;", 0, 0);
    placeWorth("d00;p00017;", 0, 0);
    placeWorth("d00;p00017;p00017;", 0, 59);
    placeWorth("d00;p00017;p00017;", 1, 59);
    placeWorth("d39;p00017;p00017;", 0, -6);
    placeWorth("d39;p90017;p00017;p00017;", 0, -18);
    placeWorth("d39;p00017;p00017;p00017;p00017;", 1, -6);
    for (int person = 0; person < 7; person++) {
      placeWorth(FULL, person, 12);
      placeWorth(NOBODY_MAY, person, 0);
    }
    // What is left for 0 as the last hangs on which of 1 and 2 is ahead of the other.
    String three = "d00;d01;d02;p00077;p00037;p00057;";
    placeWorth(three, 0, 2);
    placeWorth(three + "x12;", 0, 4);
    placeWorth("d00;d01;d02;p00077;p00017;p00037;", 0, 4);
    placeWorth("d00;d01;d02;p00077;p00017;p00037;x12;", 0, 2);
    placeWorth("d00;d01;d02;p00037;p00017;p00057;", 0, 2);
    placeWorth("d00;d01;d02;p00037;p00017;p00057;x12;", 0, 2);
    placeWorth("d00;d01;d02;p00057;p00017;p00037;x12;", 0, 4);
  }

  private static void changing(String night, int due) {
    C.takes(night, "changes() of " + night, x -> x.changes(), due);
  }

  private static void change() {
    C.promise(22);
    C.says("the first two (by numbers) who, changing places, both have fewer MONTHS, "
        + "or one fewer and the other as many (10 the lesser and the other); -9");
    for (String night : NIGHTS) {
      changing(night, -9);
    }
    changing("d39;p00017;p00010;", 1);
    changing("d39;p00010;p00017;", -9);
    changing("d00;d00;p00037;p00017;", 1);
    changing("d00;d00;p00017;p00037;", -9);
    changing("d00;d00;p00017;p00037;x01;", 1);
    // One fewer by one month, the other as many.
    changing("d00;d22;d00;p00057;p00037;", 1);
    // One fewer by 8, the other more by 2.
    changing("d00;d01;d04;p00037;p00057;", -9);
    // 6 finds none behind 5. Ahead of 0, whom it costs nothing, he does; and only ahead of 5, if
    // these two are the first in ORDER.
    changing("d00;d00;p00007;p00007;p00007;p00007;p00007;p00037;p00017;", 6);
    changing("d00;d00;p00007;p00007;p00007;p00007;p00007;p00037;p00017;x05;x16;", 56);
  }

  private static void order(String night, int all, int... due) {
    C.takes(night, "bestOrder(-1) of " + night, x -> x.bestOrder(-1), all);
    for (int k = 0; k < due.length; k++) {
      int i = k;
      C.takes(night, "bestOrder(" + i + ") of " + night, x -> x.bestOrder(i), due[i]);
    }
    for (int i : new int[] {due.length, due.length + 1, 6, 7, 120, Integer.MAX_VALUE}) {
      C.takes(night, "bestOrder(" + i + ") of " + night, x -> x.bestOrder(i), -9);
    }
  }

  private static void bestOrder() {
    C.promise(23);
    C.says("BEST ORDER (5 PEOPLE at most): all MONTHS fewest by a MORNING: "
        + "the first such by PEOPLE: its i-th; that.");
    order("", 0);
    order("d00;", 0);
    order("p00007;", 60, 0);
    order("d00;p00017;", 1, 0);
    order("d00;p00017;p00017;x01;", 61, 0, 1);
    order("d00;d04;p00037;p00017;", 10, 1, 0);
    // The first, one in the midst and the last of all ORDERS of five.
    order("d00;d01;d02;d03;d04;p00017;p00037;p00077;p00157;p00317;", 25, 0, 1, 2, 3, 4);
    order("d00;d01;d02;d03;d04;p00317;p00157;p00077;p00037;p00017;", 25, 4, 3, 2, 1, 0);
    order("d00;d01;d02;d03;d04;p00077;p00317;p00017;p00157;p00037;", 25, 2, 4, 0, 3, 1);
    order("p00007;p00007;p00007;p00007;p00007;x04;x13;", 300, 0, 1, 2, 3, 4);
  }

  // ---- PUT IN

  private static void putIn(String night, int figure, int put, int all) {
    C.takes(night, "putIn(" + figure + ", 0) of " + night, x -> x.putIn(figure, 0), put);
    C.takes(night, "putIn(" + figure + ", 1) of " + night, x -> x.putIn(figure, 1), all);
  }

  private static void putInFewest() {
    C.promise(24);
    C.says("the fewest FORGERIES of FIGURE f (0 .. 9; behind all DEEDS, more than 7 DEEDS, "
        + "if need be; nobody DID these) put in so that nobody is WITHOUT by a MORNING");
    for (int figure = 0; figure <= 9; figure++) {
      putIn("", figure, 0, 0);
      putIn("d00;", figure, 0, 0);
      putIn("d00;p00017;", figure, 0, 1);
      putIn("p00007;", figure, 1, 2 * figure + 4);
      putIn("p90007;", figure, 1, Math.max(1, 2 * figure - 1));
      putIn(FULL, figure, 0, 49);
    }
    // One is as light as 0's own DEED: he keeps the lesser, his own.
    putIn("d10;p00017;p00007;", 0, 1, 8);
    putIn("d11;p00017;p00007;", 0, 2, 8);
    // One who has an ALIBI for a FORGERY that there is has none for those put in.
    putIn("d50;p00007;a00;", 0, 1, 4);
    // One more than 7: the eighth DEED.
    putIn(SEVEN_DEEDS + "p00007;", 9, 1, 22);
    putIn(SEVEN_DEEDS + "p00017;p00007;", 9, 1, 23);
  }

  private static void putInSevenAlwaysDo() {
    C.says("(7 always do)");
    putIn(NOBODY_MAY, 0, 7, 28);
    putIn(NOBODY_MAY, 9, 7, 154);
    putIn("p00007;".repeat(7), 0, 7, 28);
    // Six own to their own DEEDS of 1 .. 11 or to a FORGERY of 4: only when seven are put in does
    // the last find one.
    putIn("d03;d03;d03;d03;d03;d03;p00017;p00027;p00047;p00087;p00167;p00327;p00007;", 0, 7, 28);
    AccusedChoose x = Check.told(NOBODY_MAY);
    x.putIn(0, 0);
    C.same("count(1): none of them stays", x.count(1), 7);
    C.same("morning(1): none of them stays", x.morning(1), 420);
    C.same("person(6, 6): none of them stays", x.person(6, 6), 0);
    C.same("addDeed", x.addDeed(0, 0), -6);
  }

  private static void putInNobodyDid() {
    C.says("nobody DID these");
    for (int did = 0; did <= 7; did++) {
      putIn("p0000" + did + ";", 9, 1, 22);
      putIn(SEVEN_DEEDS + "p0000" + did + ";", 9, 1, 22);
      putIn("p00007;p00007;p00007;p00007;p00007;p00007;p0000" + did + ";", 9, 7, 154);
    }
    putIn("d09;p00010;p00001;", 9, 1, 13 + 22);
    AccusedChoose x = Check.told("p00000;");
    x.putIn(9, 1);
    C.same("person(0, 2): his DID stays", x.person(0, 2), 0);
  }

  // ---- TOGETHER

  private static void together(String night, int set, int months, int gain) {
    C.takes(night, "together(" + set + ", 0) of " + night, x -> x.together(set, 0), months);
    C.takes(night, "together(" + set + ", 1) of " + night, x -> x.together(set, 1), gain);
  }

  private static void togetherTurns() {
    C.promise(25);
    C.says("(none only if there is none), so that MONTHS of all in it together are fewest, "
        + "all others each as in a MORNING: these MONTHS; GAIN: by how much fewer than by a MORNING.");
    together(GRAVE_OF_66, 1, 66, 0);
    together("d39;p00017;p00010;", 3, 126, 0);
    together("d00;p00007;", 1, 60, 0);
    together("d00;d04;p00037;p00017;", 3, 10, 51);
    together("d00;d04;p00037;p00017;", 1, 1, 0);
    together("d00;d04;p00037;p00017;", 2, 60, 0);
    // What 0 leaves for 2, the one between takes, if he is no part of it.
    together("d00;d04;p00037;p00017;p00017;", 5, 61, 0);
    together("d00;d04;p00037;p00017;p00017;", 3, 10, 51);
    together("d00;d04;p00037;p00017;p00017;", 7, 70, 51);
    together("d00;d04;p00037;p00017;p00017;x12;", 5, 10, 51);
    // 1 takes 1 for himself, and 2 nothing that he leaves.
    together("d00;d01;d02;p00077;p00037;p00057;", 5, 6, 0);
  }

  private static void togetherEmptyAndFull() {
    C.says("-6 bits of nobody");
    together("", 0, 0, 0);
    together("d00;", 0, 0, 0);
    together("p00007;", 0, 0, 0);
    together("p00007;", 1, 60, 0);
    together(FULL, 0, 0, 0);
    together(FULL, 127, 49, 0);
    together(FULL, 64, 13, 0);
    together(FULL, 63, 36, 0);
    together(NOBODY_MAY, 127, 420, 0);
    together(NOBODY_MAY, 64, 60, 0);
    // Two of the five who may 4, 5 and 6 only find none, whatever is taken.
    together(SEVEN_DEEDS + "p01277;p01127;p01127;p01127;p01127;p01127;p00157;", 127, 157, 0);
    together(SEVEN_DEEDS + "p01277;p00017;p00037;p00077;p00157;p00317;p00637;", 127, 49, 47);
  }

  // ---- ALIBI, GIVEN AWAY

  private static void worth(String night, int person, int deed, int due) {
    C.takes(night, "alibiWorth(" + person + ", " + deed + ") of " + night,
        x -> x.alibiWorth(person, deed), due);
  }

  private static void alibi() {
    C.promise(26);
    C.says("by how many MONTHS in all a MORNING would be longer, "
        + "were one's ALIBI for a DEED other than it is (may be below 0)");
    worth("d00;p00017;", 0, 0, 59);
    worth("d00;p00017;a00;", 0, 0, -59);
    worth("d00;p00007;", 0, 0, 0);
    worth("d00;p00007;a00;", 0, 0, 0);
    worth("d39;p00017;", 0, 0, -6);
    worth("d39;p00017;a00;", 0, 0, 6);
    worth("d00;d04;p00037;p00017;", 0, 0, -51);
    worth("d50;p00007;", 0, 0, 56);
    for (int i = 0; i < 7; i++) {
      worth(FULL, i, i, i == 6 ? 47 : 0);
      worth(FULL, 6, i, i == 6 ? 47 : 0);
      worth(NOBODY_MAY, 6, i, 0);
    }
  }

  private static void given(String night, int due) {
    C.takes(night, "givenAway() of " + night, x -> x.givenAway(), due);
  }

  private static void givenAway() {
    C.promise(27);
    C.says("the ALIBI (10 one and the DEED) that, being lost, makes all MONTHS fewest, "
        + "fewer than now, of several the least; -9");
    for (String night : NIGHTS) {
      given(night, -9);
    }
    given("d00;p00017;a00;", 0);
    given("d00;p00007;a00;", -9);
    given("d39;p00017;a00;", -9);
    given("d38;p00017;a00;", -9);
    given("d00;p00017;p00017;a00;a10;", 0);
    given("d00;p00007;p00017;a00;a10;", 10);
    given("d00;d00;p00037;a00;a01;", 0);
    given("d04;d00;p00037;a00;a01;", 1);
    given("d00;d04;p00007;p00037;a00;a01;a10;a11;", 10);
    // The last of all: one 6, the DEED 6.
    given("d00;d00;d00;d00;d00;d00;d00;p00017;p00027;p00047;p00087;p00167;p00327;p00647;a66;", 66);
  }

  // ---- CAUGHT

  private static void odds(String night, int t, int k, long above, long below) {
    String told = "caught(" + t + ", " + k + ", ";
    C.takes(night, told + "0) of " + night, x -> x.caught(t, k, 0), above);
    C.takes(night, told + "1) of " + night, x -> x.caught(t, k, 1), below);
  }

  private static void caughtWhom() {
    C.promise(28);
    C.says("each who owns to a DEED he DID not, by a MORNING, is caught with odds 1 in t (2 .. 20)");
    // Nobody; one who owns to none; one who DID it; one who DID another; one who DID none.
    odds("", 2, 0, 1, 1);
    odds("p00007;", 2, 0, 1, 1);
    odds("p00007;", 2, 1, 0, 1);
    odds("d00;p00007;", 20, 0, 1, 1);
    odds("d00;p00010;", 20, 0, 1, 1);
    odds("d00;p00010;", 20, 1, 0, 1);
    odds("d00;p00011;", 20, 0, 19, 20);
    odds("d00;p00017;", 20, 1, 1, 20);
    odds("d00;p00017;", 2, 0, 1, 2);
    odds("d00;p00017;p00017;", 3, 1, 1, 3);
    odds("d00;d00;p00010;p00027;", 3, 1, 1, 3);
    odds("d00;d00;p00010;p00027;", 3, 2, 0, 1);
  }

  private static void caughtFractions() {
    C.says("(Fractions are told in lowest terms; 0 as 0 over 1.)");
    String two = "d00;d00;p00037;p00037;";
    odds(two, 2, 0, 1, 4);
    odds(two, 2, 1, 1, 2);
    odds(two, 2, 2, 1, 4);
    odds(two, 2, 3, 0, 1);
    odds(two, 4, 0, 9, 16);
    odds(two, 4, 1, 3, 8);
    odds(two, 10, 1, 9, 50);
    odds("d00;d00;d00;p00077;p00077;p00077;", 3, 1, 4, 9);
    odds("d00;d00;d00;p00077;p00077;p00077;", 3, 2, 2, 9);
    odds("d00;d00;d00;p00077;p00077;p00077;", 6, 1, 25, 72);
    odds(FULL, 7, 1, 46656, 117649);
    odds(FULL, 2, 3, 35, 128);
    odds(FULL, 14, 6, 13, 15059072);
  }

  /** What was asked of more DEEDS and PEOPLE leaves nothing behind for the night that is restored. */
  private static void askedBehindMore() {
    for (String night : new String[] {"", "d00;p00017;", "d00;d04;p00037;p00017;b01;"}) {
      for (int first = 0; first <= 1; first++) {
        AccusedChoose x = Check.told(night);
        x.image();
        while (x.addDeed(3, 9) >= 0) {
          x.addPerson(9, 127, 0);
        }
        x.brothers(x.count(0) - 1, 0);
        String more = asked(x, first);
        C.sameText("what is asked once more of " + night, asked(x, 1 - first), more);
        x.restore();
        C.sameText("what is asked of " + night, asked(x, first), asked(Check.told(night), first));
      }
    }
  }

  private static String asked(AccusedChoose x, int first) {
    StringBuilder s = new StringBuilder();
    int all = (1 << x.count(0)) - 1;
    int least = first == 0 ? x.least(-1) : 0;
    s.append(x.together(all, 0)).append(' ').append(x.together(all & 1, 1)).append(' ');
    s.append(first == 0 ? least : x.least(-1)).append(' ');
    s.append(x.morning(1)).append(' ').append(x.allFromLast()).append(' ').append(x.whose(-1, -1));
    s.append(' ').append(x.changes()).append(' ').append(x.putIn(9, 1)).append(' ');
    s.append(x.givenAway()).append(' ').append(x.caught(3, 1, 0)).append(' ').append(x.bestRule());
    s.append(' ').append(x.rest(0)).append(' ').append(x.rest(1)).append(' ').append(x.rest(2));
    s.append(' ').append(x.bribe(0)).append(' ').append(x.bribe(1)).append(' ').append(x.truth(0));
    s.append(' ').append(x.truth(1)).append(' ').append(x.keeper()).append(' ').append(x.spared());
    s.append(' ').append(x.swaps(0)).append(' ').append(x.parole()).append(' ').append(x.madeLight());
    s.append(' ').append(x.newBrothers()).append(' ').append(x.always()).append(' ');
    s.append(x.lots(3, 1, 0)).append(' ').append(x.bestOrder(-1)).append(' ').append(x.even(-1));
    s.append(' ').append(x.fits(-1)).append(' ').append(x.judge());
    for (int person = 0; person < x.count(0); person++) {
      s.append(' ').append(x.least(person)).append(' ').append(x.fromLast(person, 0));
      s.append(' ').append(x.placeWorth(person)).append(' ').append(x.takes(person, 1));
      s.append(' ').append(x.latest(person, 0)).append(' ').append(x.latest(person, 1));
      s.append(' ').append(x.lastWord(person)).append(' ').append(x.bestDid(person));
      s.append(' ').append(x.heavier(person, 0)).append(' ').append(x.alibiWorth(person, 0));
    }
    return s.toString();
  }

  private static void caughtEdges() {
    C.says("how likely just k (0 .. 7) are: a fraction");
    odds(FULL, 2, 0, 1, 128);
    odds(FULL, 2, 7, 1, 128);
    odds(FULL, 20, 0, 893871739L, 1280000000L);
    odds(FULL, 20, 6, 133, 1280000000L);
    odds(FULL, 20, 7, 1, 1280000000L);
    odds(NOBODY_MAY, 20, 7, 0, 1);
    odds(NOBODY_MAY, 20, 0, 1, 1);
    for (int t = 2; t <= 20; t++) {
      odds("d00;p00017;", t, 0, t - 1, t);
      odds("d00;p00017;", t, 1, 1, t);
      for (int k = 2; k <= 7; k++) {
        odds("d00;p00017;", t, k, 0, 1);
      }
    }
  }
}
