/** Parts III and IV at their edges: each case behind the words of the document that name it. */
public final class EdgeWhatIfTest {
  private static final Check C = new Check("EdgeWhatIfTest");
  // Seven DEEDS of 1, 3, .. 13 months and seven who COULD all: 0 takes 0, 1 takes 1, ..
  private static final String SEVEN_DEEDS = "d00;d01;d02;d03;d04;d05;d06;";
  private static final String SEVEN_PEOPLE =
      "p01277;p01277;p01277;p01277;p01277;p01277;p01277;";
  private static final String FULL = SEVEN_DEEDS + SEVEN_PEOPLE;
  private static final String NOBODY_MAY = SEVEN_DEEDS + "p00007;".repeat(7);
  // 0 may own to 0 (1 month) and 1 (9 months), 1 only to 0.
  private static final String TWO = "d00;d04;p00037;p00017;";
  // With five, only this ORDER turned round lets each of them find one.
  private static final String ONLY_TURNED = "d00;d01;d02;d03;d04;p00317;p00157;p00077;p00037;p00017;";
  private static final String[] NOTHING_TO_GAIN = {"", "d00;", "p01277;", FULL, NOBODY_MAY,
      SEVEN_DEEDS, SEVEN_PEOPLE, "d00;p00017;"};

  public static void main(String[] args) {
    spared();
    keeper();
    keeperFewest();
    swapsBothFewer();
    swapsMayHave();
    heavierOfFigures();
    heavierStill();
    bestDid();
    restMornings();
    restMonths();
    even();
    lastWord();
    bribe();
    latest();
    worstPlace();
    truth();
    truthOfAll();
    parole();
    newBrothers();
    newBrothersFewest();
    madeLight();
    always();
    nothingStays();
    C.end();
  }

  private interface Question {
    long of(AccusedChoose x);
  }

  private static void due(String night, String call, Question what, long due) {
    C.takes(night, call + " of " + night, what::of, due);
  }

  // ---- III

  private static void spared(String night, int due) {
    due(night, "spared()", x -> x.spared(), due);
  }

  private static void spared() {
    C.promise(29);
    C.says("SPARED: DEEDS (bits) without each of which alone (it is not there) "
        + "all MONTHS by a MORNING are as they are.");
    spared("", 0);
    spared("p01277;", 0);
    spared("d00;", 1);
    spared(SEVEN_DEEDS, 127);
    spared(NOBODY_MAY, 127);
    spared(FULL, 0);
    spared(SEVEN_DEEDS + "p01277;", 126);
    spared(SEVEN_DEEDS + "p00647;", 63);
    // Each alone can be spared, though not both.
    spared("d00;d00;p00037;", 3);
    // 60 months by the GRAVE, and 60 without it.
    spared("d38;p00017;", 1);
    spared("d39;p00017;", 0);
    spared("d00;p00017;p00017;", 0);
    // Without 0, 0 would leave 1 for nobody, and 1 would be WITHOUT all the same.
    spared(TWO, 2);
  }

  private static void keeper(String night, int due) {
    due(night, "keeper()", x -> x.keeper(), due);
  }

  private static void keeper() {
    C.promise(30);
    C.says("KEEPER: who, were he the last in ORDER, would leave his BROTHER with the fewest MONTHS");
    for (String night : NOTHING_TO_GAIN) {
      keeper(night, -9);
    }
    keeper(NOBODY_MAY + "b06;", -9);
    keeper(FULL + "b06;", 0);
    keeper(FULL + "b06;x06;", 6);
    keeper(FULL + "b56;", 5);
    keeper(TWO + "b01;", 0);
    // The last already is the last.
    keeper(TWO + "b01;x01;", 1);
    keeper("d00;d04;p00017;p00037;b01;", 0);
    keeper("d00;p00017;p00007;b01;", -9);
  }

  private static void keeperFewest() {
    C.says("(of all by whom a BROTHER has fewer than now), of several the least; -9");
    // As many is not fewer.
    keeper("d00;d00;p00037;p00037;b01;", -9);
    keeper("d00;d00;d00;p00077;p00077;p00077;b02;", -9);
    // 6 would have 11, 5 would have 9, 4 would have 7.
    keeper(FULL + "b06;b15;b24;", 2);
    keeper(FULL + "b06;b15;", 1);
    String two = "d00;d00;p00017;p00017;p00027;p00027;";
    keeper(two + "b01;b23;", 0);
    keeper(two + "b01;b23;x02;", 1);
    keeper(two + "b23;", 2);
    // 3 would have fewer than 1 would, though 1 would have more months less.
    keeper("d01;d00;d02;p00017;p00017;p00067;p00067;b01;b23;", 2);
  }

  private static void swaps(String night, int two, int steady) {
    due(night, "swaps(0)", x -> x.swaps(0), two);
    due(night, "swaps(1)", x -> x.swaps(1), steady);
  }

  private static void swapsBothFewer() {
    C.promise(31);
    C.says("SWAPS: two, each with a DEED FROM THE LAST BACK, who each MAY have the other's, "
        + "and by that both have fewer MONTHS (10 the lesser and the other), the first; -9; "
        + "STEADY: whether no such two are there: 1, 0.");
    for (String night : NOTHING_TO_GAIN) {
      swaps(night, -9, 1);
    }
    swaps(TWO, -9, 1);
    // 0 takes 0 (5 months) only so that 1 does not, and 2, his BROTHER, keeps 2 (4 months).
    // For 0 it were 3 months by 2, and for 2 it were 2 months by 0.
    swaps("d51;d44;d24;d36;p20052;p60097;p70055;b20;", 2, 0);
    // 5 months by 2, too: for 0 as many.
    swaps("d51;d44;d27;d36;p20052;p60097;p70055;b20;", -9, 1);
    // 4 months by 0, too: for 2 as many.
    swaps("d51;d44;d24;d36;p20052;p60097;p30055;b20;", -9, 1);
  }

  private static void swapsMayHave() {
    swaps("d51;d44;d24;d36;p20052;p60097;p70055;b20;a20;", -9, 1);
    // 2 keeps nothing by it: he is WITHOUT, and 0 takes what is lightest.
    swaps("d51;d44;d24;d36;p20052;p60097;p70055;b20;a22;", -9, 1);
    swaps("d51;d44;d24;d36;p20052;p60097;p70055;", -9, 1);
    // 0, who has 66 months, and 1, who is WITHOUT and has no DEED to give for it.
    swaps("d39;p00017;p00010;b01;", -9, 1);
    String deeds = "d51;d44;d24;d36;";
    // They take 1, 4, 0, 2, 3. Both 0 and 2 (10 and 9 months, then 9 and 5) and 1 and 4 (9 and 10,
    // then 8 and 8) would swap: 0 and 2 are the first.
    String two = "d04;d53;d43;d55;d54;p00152;p50283;p90257;p30224;p70220;b30;b41;";
    due(two, "allFromLast()", x -> x.allFromLast(), 42);
    due(two, "fromLast(1, 1) + fromLast(4, 1)", x -> x.fromLast(1, 1) + x.fromLast(4, 1), 19);
    due(two, "months(1, 3) + months(4, 4)", x -> x.months(1, 3) + x.months(4, 4), 16);
    swaps(two, 2, 0);
    swaps(deeds + "p20052;p70055;p60097;b10;x12;", 1, 0);
    swaps(deeds + "p60097;p20052;p70055;b12;x01;", 12, 0);
    swaps(deeds + "p00007;p00007;p00007;p00007;p20052;p60097;p70055;b46;a00;a10;a20;a30;", 46, 0);
  }

  private static void heavier(String night, int person, int deed, int due) {
    due(night, "heavier(" + person + ", " + deed + ")", x -> x.heavier(person, deed), due);
  }

  private static void heavierOfFigures() {
    C.promise(32);
    C.says("HEAVIER: the greatest FIGURE (0 .. 9) of a DEED (KIND as it is) "
        + "with which one still takes it by a MORNING; -9.");
    for (int kind = 0; kind <= 5; kind++) {
      for (int figure = 0; figure <= 9; figure++) {
        heavier("d" + kind + figure + ";p01277;", 0, 0, 9);
        heavier("d" + kind + figure + ";p01277;a00;", 0, 0, -9);
      }
    }
    // 9 months by 1: as many by 0, of several the least; a LIGHT has 9 with 9, a THEFT with 2.
    heavier("d00;d04;p00037;", 0, 0, 4);
    heavier("d20;d04;p00037;", 0, 0, 9);
    heavier("d10;d04;p00037;", 0, 0, 2);
    heavier("d30;d04;p00037;", 0, 0, -9);
    heavier("d40;d04;p00037;", 0, 0, 8);
    // Behind the other it must be less: 7 months.
    heavier("d04;d00;p00037;", 0, 1, 3);
    heavier("d04;d20;p00037;", 0, 1, 8);
    // With 0 as the only FIGURE, and with none.
    heavier("d01;d09;p00037;", 0, 1, 0);
    heavier("d00;d09;p00037;", 0, 1, -9);
    heavier("d00;d00;p00037;", 0, 0, 0);
  }

  private static void heavierStill() {
    C.says("with which one still takes it by a MORNING");
    heavier(FULL, 6, 6, 9);
    heavier(FULL, 0, 0, 1);
    heavier(FULL, 0, 6, -9);
    heavier(FULL, 1, 1, 2);
    // With 2 (5 months) 0 leaves it and takes 1, and 1 has it, as heavy as 2.
    heavier(FULL, 1, 0, 2);
    heavier(FULL, 5, 5, 6);
    heavier(NOBODY_MAY, 6, 6, -9);
    heavier(TWO, 1, 0, 9);
    heavier("d00;p00017;p00017;", 1, 0, -9);
    // He DID it: 19 months are 13.
    heavier("d00;d06;p00030;", 0, 0, 9);
    heavier("d00;d06;p00037;", 0, 0, 6);
  }

  private static void bestDid(String night, int person, int due) {
    due(night, "bestDid(" + person + ")", x -> x.bestDid(person), due);
  }

  private static void bestDid() {
    C.promise(33);
    C.says("BEST DID: of DEEDS he MAY, or 7, what one had better have done so that "
        + "his MONTHS are fewest, of several the least.");
    bestDid("p01277;", 0, 7);
    bestDid("p01270;", 0, 7);
    bestDid("d09;p00007;", 0, 7);
    bestDid("d09;p00000;", 0, 7);
    bestDid("d09;p00010;a00;", 0, 7);
    bestDid("d09;p00017;", 0, 0);
    bestDid("d59;p00007;", 0, 0);
    bestDid("d59;p00007;a00;", 0, 7);
    // 1 month stays 1 month, whatever he DID.
    bestDid("d00;p00017;", 0, 0);
    bestDid("d00;d00;p00027;", 0, 1);
    bestDid("d09;d09;p00037;", 0, 0);
    bestDid("d09;d08;p00037;", 0, 1);
    bestDid("d09;p00017;p00017;", 1, 0);
    bestDid(FULL, 0, 0);
    bestDid(FULL, 1, 1);
    bestDid(FULL, 6, 6);
    bestDid(FULL + "x06;", 6, 0);
    bestDid(NOBODY_MAY, 6, 7);
    // He may only 6, and others take all else.
    bestDid(SEVEN_DEEDS + "p00647;", 0, 6);
  }

  private static void rest(String night, int mornings, int months, int left) {
    due(night, "rest(0)", x -> x.rest(0), mornings);
    due(night, "rest(1)", x -> x.rest(1), months);
    due(night, "rest(2)", x -> x.rest(2), left);
  }

  private static void restMornings() {
    C.promise(34);
    C.says("REST: MORNINGS one behind the other, all PEOPLE there again each time, "
        + "DEEDS once taken away for good: how many in which somebody takes one");
    rest("", 0, 0, 0);
    rest("p01277;", 0, 0, 0);
    rest("d00;", 0, 0, 1);
    rest(SEVEN_DEEDS, 0, 0, 127);
    rest(NOBODY_MAY, 0, 0, 127);
    rest("d00;p00017;", 1, 1, 0);
    rest(FULL, 1, 49, 0);
    rest(SEVEN_DEEDS + "p01277;", 7, 49, 0);
    rest(SEVEN_DEEDS + "p01277;p01277;p01277;", 3, 49, 0);
    rest(SEVEN_DEEDS + "p00637;", 6, 36, 64);
    rest(SEVEN_DEEDS + "p00647;", 1, 13, 63);
  }

  private static void restMonths() {
    C.says("MONTHS of all that is taken in these together; DEEDS left (bits).");
    // 1 is WITHOUT both times: that is of nothing that is taken.
    rest(TWO, 2, 10, 0);
    rest("d39;p00017;p00017;", 1, 66, 0);
    rest("d00;d00;p00017;p00007;", 1, 1, 2);
    rest("d04;p00010;", 1, 6, 0);
  }

  private static void even(String night, int most, int... due) {
    due(night, "even(-1)", x -> x.even(-1), most);
    for (int k = 0; k < due.length; k++) {
      int i = k;
      due(night, "even(" + i + ")", x -> x.even(i), due[i]);
    }
    for (int i : new int[] {due.length, due.length + 1, 6, 7, 120, Integer.MAX_VALUE}) {
      due(night, "even(" + i + ")", x -> x.even(i), -9);
    }
  }

  private static void even() {
    C.promise(35);
    C.says("EVEN: of ORDERS (5 PEOPLE at most) that by which the most MONTHS that one has are fewest: "
        + "these; the first such's i-th.");
    even("", 0);
    even("d00;", 0);
    even("p00007;", 60, 0);
    even("d20;p00017;", 0, 0);
    even("d39;p00017;", 66, 0);
    even("d39;p00017;p00017;x01;", 66, 0, 1);
    even("d00;p00017;p00017;x01;", 60, 0, 1);
    even(TWO, 9, 1, 0);
    even(ONLY_TURNED, 9, 4, 3, 2, 1, 0);
    even("d00;d01;d02;d03;d04;p00017;p00037;p00077;p00157;p00317;", 9, 0, 1, 2, 3, 4);
    even("p00007;p00007;p00007;p00007;p00007;x04;x13;", 60, 0, 1, 2, 3, 4);
    // All MONTHS would be fewer by the other ORDER, 73 and not 76, but then one has 60.
    even("d09;d37;p00017;p20030;", 57, 0, 1);
  }

  private static void lastWord(String night, int person, int due) {
    due(night, "lastWord(" + person + ")", x -> x.lastWord(person), due);
  }

  private static void lastWord() {
    C.promise(36);
    C.says("LAST WORD: the fewer MONTHS that one has by the two ORDERS in which he is the last, "
        + "the others as they are in ORDER, or turned round.");
    lastWord("p00007;", 0, 60);
    lastWord("d00;p00017;", 0, 1);
    lastWord(TWO, 0, 9);
    lastWord(TWO, 1, 60);
    for (int person = 0; person < 7; person++) {
      lastWord(FULL, person, 13);
      lastWord(NOBODY_MAY, person, 60);
    }
    // Behind 1 and 2 it is 3 months, behind 2 and 1 it is 5: once as they are, once turned round.
    String three = "d00;d01;d02;p00077;p00037;p00057;";
    lastWord(three, 0, 3);
    lastWord(three + "x12;", 0, 3);
    lastWord(three + "x01;", 0, 3);
    lastWord(three + "x02;", 0, 3);
    lastWord(three + "x01;x12;", 0, 3);
    // The same, with 6 as the one.
    String seven = "d00;d01;d02;p00037;p00007;p00007;p00007;p00007;p00057;p00077;";
    lastWord(seven, 6, 3);
    lastWord(seven + "x05;", 6, 3);
    lastWord(seven + "x06;", 6, 3);
  }

  // ---- IV

  private static void bribe(String night, int two, int less) {
    due(night, "bribe(0)", x -> x.bribe(0), two);
    due(night, "bribe(1)", x -> x.bribe(1), less);
  }

  private static void bribe() {
    C.promise(37);
    C.says("BRIBE: of all twos who change places the one by which MONTHS of these two together "
        + "become fewest, fewer than now (10 the lesser and the other), of several the least; -9; "
        + "by how much.");
    for (String night : NOTHING_TO_GAIN) {
      bribe(night, -9, -9);
    }
    bribe(TWO, 1, 51);
    bribe(TWO + "x01;", -9, -9);
    bribe("d00;p00017;p00017;", -9, -9);
    bribe("d39;p00017;p00010;", 1, 22);
    bribe("d00;d00;p00017;p00037;", -9, -9);
    // 8 and 9 now, 9 and 4 then.
    bribe("d29;d10;p90037;p00037;", 1, 4);
    // 61 of 0 and 6, 10 of 5 and 6.
    bribe("d00;d04;p00007;p00007;p00007;p00007;p00007;p00037;p00017;", 56, 51);
    // 10 with 1, 10 with 2: of several the least.
    bribe("d00;d04;p00037;p00017;p00017;", 1, 51);
    // 61 of 1 and 2 would be as many as now: 0 and 2 have 10.
    bribe("d00;d04;p00037;p00007;p00017;", 2, 51);
  }

  private static void latest(String night, int person, int place, int worst) {
    due(night, "latest(" + person + ", 0)", x -> x.latest(person, 0), place);
    due(night, "latest(" + person + ", 1)", x -> x.latest(person, 1), worst);
  }

  private static void latest() {
    C.promise(38);
    C.says("LATEST: the latest place in ORDER (0 .. how many less 1) at which one "
        + "(the others as they are in ORDER) has as few MONTHS as at the first");
    latest("p00007;", 0, 0, 60);
    latest("d00;p00017;", 0, 0, 1);
    latest("d00;p00017;p00007;", 0, 1, 1);
    latest("d00;p00017;p00017;", 0, 0, 60);
    latest(TWO, 0, 0, 9);
    latest(TWO, 1, 0, 60);
    for (int person = 0; person < 7; person++) {
      latest(FULL, person, 0, 13);
      latest(NOBODY_MAY, person, 6, 60);
      latest("d00;p00017;p00007;p00007;p00007;p00007;p00007;p00007;", person, 6, person == 0 ? 1 : 60);
    }
    // In the midst: 1 takes what 0 would have, 2 does not.
    latest("d00;d01;p00037;p00027;p00017;p00007;", 0, 1, 60);
    latest("d00;d01;p00037;p00027;p00017;p00007;x12;", 0, 0, 60);
    latest("d00;d00;d00;p00077;p00077;p00077;p00077;", 3, 2, 60);
    // The last one, moved to each place ahead: only ahead of 1, who takes 0, has he 1 month.
    latest("d00;d01;p00007;p00017;p00007;p00007;p00007;p00007;p00037;", 6, 1, 3);
    latest("d00;d01;p00007;p00007;p00017;p00007;p00007;p00007;p00037;", 6, 2, 3);
    // 60 behind the other are fewer than the 66 of the first place.
    latest("d39;p00017;p00017;", 0, 1, 66);
    latest("d38;p00017;p00017;", 0, 1, 60);
  }

  private static void worstPlace() {
    C.says("WORST PLACE: the most MONTHS that he has at any place.");
    latest("d39;p00017;p00017;p00017;", 2, 2, 66);
    latest("d00;d01;d02;p00077;p00037;p00057;", 0, 0, 3);
    latest("d00;d01;d02;p00077;p00037;p00057;x12;", 0, 0, 5);
    latest("d00;d01;d02;p00077;p00077;p00077;", 2, 0, 5);
  }

  private static void truth(String night, int all, int ones) {
    due(night, "truth(0)", x -> x.truth(0), all);
    due(night, "truth(1)", x -> x.truth(1), ones);
  }

  private static void truth() {
    C.promise(39);
    C.says("TRUTH: all MONTHS, if each, when it is his turn, takes the DEED he DID, "
        + "if he MAY and nobody took it, else as in a MORNING; how many do so.");
    truth("", 0, 0);
    truth("p01270;", 60, 0);
    truth("d00;p00017;", 1, 0);
    truth("d00;p00010;", 1, 1);
    truth("d04;p00010;", 6, 1);
    // Not one that is not there, nor one that he COULD not have done, nor one with an ALIBI.
    truth("d00;p00031;", 1, 0);
    truth("d00;d04;p00011;", 1, 0);
    truth("d00;d04;p00031;", 6, 1);
    truth("d00;d04;p00031;a01;", 1, 0);
    truth("d00;d54;p00011;", 8, 1);
    // Not one that another took ahead of him, be it that he DID it, too, or that it was lightest.
    truth("d00;d04;p00031;p00031;", 7, 1);
    truth("d00;d04;p00037;p00030;", 10, 0);
    truth("d00;d04;p00037;p00030;x01;", 10, 1);
    truth("d39;p00010;", 44, 1);
  }

  private static void truthOfAll() {
    truth(FULL, 49, 0);
    truth(NOBODY_MAY, 420, 0);
    // 1, 2, 4, 5, 6, 8 and 9 months.
    truth(SEVEN_DEEDS + "p01270;p01271;p01272;p01273;p01274;p01275;p01276;", 35, 7);
    truth(SEVEN_DEEDS + "p01276;p01275;p01274;p01273;p01272;p01271;p01270;", 35, 7);
    // All DID the same one: the first has it, the others are as by a MORNING.
    truth(SEVEN_DEEDS + "p01276;".repeat(7), 45, 1);
    truth(SEVEN_DEEDS + "p00006;".repeat(7), 420, 0);
  }

  private static void parole(String night, int due) {
    due(night, "parole()", x -> x.parole(), due);
  }

  private static void parole() {
    C.promise(40);
    C.says("PAROLE: one's RECORD becomes 0: the one by whom all MONTHS by a MORNING become fewest, "
        + "fewer than now, of several the least; -9.");
    for (String night : NOTHING_TO_GAIN) {
      parole(night, -9);
    }
    parole("d10;p90017;", 0);
    parole("d10;p20017;", 0);
    // Half of 1 is cut to none: as many as now.
    parole("d10;p10017;", -9);
    parole("d10;d10;p40037;p90037;", 1);
    parole("d10;d10;p90037;p40037;", 0);
    parole("d10;d10;p40037;p50037;", 0);
    parole("d59;p90007;", -9);
    parole("d10;p90017;a00;", -9);
    parole("d10;d10;d10;d10;d10;d10;d10;p00017;p00027;p00047;p00087;p00167;p00327;p90647;", 6);
    // With 0 his FORGERY is 4 and he takes the DEED of 3, so that 1 finds one; with 1 it were 3.
    parole("d50;d01;p90037;p00007;", 0);
    parole("d50;d01;p10037;p00007;", 0);
  }

  private static void newBrothers(String night, int due) {
    due(night, "newBrothers()", x -> x.newBrothers(), due);
  }

  private static void newBrothers() {
    C.promise(41);
    C.says("NEW BROTHERS: the two who, as BROTHERS, make all MONTHS FROM THE LAST BACK fewest, "
        + "fewer than now (10 the lesser and the other), of several the least; -9.");
    for (String night : NOTHING_TO_GAIN) {
      newBrothers(night, -9);
    }
    newBrothers(TWO, 1);
    newBrothers(TWO + "x01;", -9);
    // They are already: as many as now.
    newBrothers(TWO + "b01;", -9);
    newBrothers("d00;d04;p00037;p00017;p00017;", 1);
    newBrothers("d00;d04;p00037;p00007;p00017;", 2);
    newBrothers("d00;d04;p00007;p00007;p00007;p00007;p00007;p00037;p00017;", 56);
    // Who was theirs is none's then: 0 would no more leave 0 for 1.
    newBrothers("d00;d04;p00037;p00017;p00017;b01;", -9);
    newBrothers("d00;d04;p00037;p00017;p00017;b02;", 1);
    newBrothers("d00;d04;p00037;p00017;p00017;b12;", 1);
    // 0 left 0 for 1 and took what 2 DID: 70 months; as 2's BROTHER he takes 0, and it is 67.
    newBrothers("d00;d04;p00037;p00017;p00021;b01;", 2);
  }

  private static void newBrothersFewest() {
    // 67 with 0 and 1, 71 with 2 and 3, and the other way round.
    newBrothers("d00;d02;d00;d04;p00037;p00017;p00127;p00047;", 1);
    newBrothers("d00;d04;d00;d02;p00037;p00017;p00127;p00047;", 23);
    newBrothers("d00;d04;d00;d04;p00037;p00017;p00127;p00047;", 1);
    // Each two alone: 67 with 0 and 3, 71 with 1 and 2; all four together it were fewer.
    newBrothers("d00;d02;d00;d04;p00037;p00127;p00047;p00017;", 3);
    newBrothers("d00;d04;d00;d02;p00037;p00127;p00047;p00017;", 12);
  }

  private static void madeLight(String night, int due) {
    due(night, "madeLight()", x -> x.madeLight(), due);
  }

  private static void madeLight() {
    C.promise(42);
    C.says("MADE LIGHT: the DEED that, being LIGHT (FIGURE as it is), "
        + "makes all MONTHS by a MORNING fewest, fewer than now, of several the least; -9.");
    madeLight("", -9);
    madeLight("d00;", -9);
    madeLight(SEVEN_DEEDS, -9);
    madeLight(SEVEN_PEOPLE, -9);
    madeLight(NOBODY_MAY, -9);
    madeLight(FULL, 6);
    madeLight("d00;p00017;", 0);
    madeLight("d40;p00017;", 0);
    madeLight("d39;p00017;", 0);
    for (int figure = 0; figure <= 9; figure++) {
      madeLight("d2" + figure + ";p00017;", -9);
    }
    madeLight("d00;p00007;", -9);
    madeLight("d50;p00007;", -9);
    madeLight("d50;p00017;", 0);
    madeLight("d04;d04;p00017;p00027;", 0);
    madeLight("d04;d05;p00017;p00027;", 1);
    madeLight("d05;d04;p00017;p00027;", 0);
    // One that nobody takes now would be taken.
    madeLight("d01;d02;p00037;", 0);
    madeLight("d22;d02;p00037;", -9);
    madeLight("d23;d02;p00037;", 1);
    madeLight("d20;d20;d20;d20;d20;d20;d09;" + SEVEN_PEOPLE, 6);
  }

  private static void always(String night, int due) {
    due(night, "always()", x -> x.always(), due);
  }

  private static void always() {
    C.promise(43);
    C.says("ALWAYS: DEEDS (bits) that somebody takes by a MORNING in each of the ORDERS "
        + "that are as it is, turned round, and with the first as the last.");
    always("", 0);
    always("d00;", 0);
    always("p01277;", 0);
    always(SEVEN_DEEDS, 0);
    always(NOBODY_MAY, 0);
    always(FULL, 127);
    always(SEVEN_DEEDS + "p01277;", 1);
    always(SEVEN_DEEDS + "p00647;", 64);
    always(TWO, 1);
    always("d00;d04;p00037;p00037;", 3);
    // Only as it is; only turned round; only with the first as the last 1 is left.
    always("d00;d04;p00037;p00017;p00017;", 1);
    always("d00;d04;p00017;p00017;p00037;", 1);
    always("d00;d01;d02;p00027;p00057;p00077;", 3);
    always("d00;d04;p00017;p00017;p00037;x02;", 1);
    always("d00;d01;d02;p00027;p00007;p00007;p00007;p00007;p00057;p00077;", 3);
    // 1, 2, .. 6, 0: 6 takes 0 ahead of 0, who is left 1; as it is and turned round 6 has 1.
    always("d00;d01;p00037;p00007;p00007;p00007;p00007;p00007;p00017;", 1);
  }

  /** Whatever is asked, the night stays as it is. */
  private static void nothingStays() {
    C.promise(51);
    C.says("Nothing is promised beyond the answers and state changes described above");
    for (String night : new String[] {"", TWO, FULL, NOBODY_MAY + "b06;", ONLY_TURNED + "b04;a00;"}) {
      AccusedChoose x = Check.busy(night);
      int people = x.count(0);
      for (int i = -1; i < people; i++) {
        x.least(i);
        x.bestOrder(i);
        x.even(i);
        x.fits(i);
      }
      for (int i = 0; i < people; i++) {
        x.placeWorth(i);
        x.bestDid(i);
        x.lastWord(i);
        x.latest(i, 1);
        x.fromLast(i, 0);
        x.takes(i, 0);
        for (int deed = 0; deed < x.count(1); deed++) {
          x.alibiWorth(i, deed);
          x.heavier(i, deed);
          x.whose(i, deed);
        }
      }
      for (int rule = 0; rule <= 4; rule++) {
        x.rule(rule, 1);
      }
      x.bestRule();
      x.changes();
      x.putIn(9, 1);
      x.together((1 << people) - 1, 1);
      x.givenAway();
      x.caught(2, 0, 0);
      x.spared();
      x.keeper();
      x.swaps(0);
      x.rest(1);
      x.bribe(0);
      x.truth(1);
      x.parole();
      x.newBrothers();
      x.madeLight();
      x.always();
      x.lots(20, 1, 0);
      C.sameText("what was asked of " + night, Trace.spend(x), Trace.spend(Check.busy(night)));
    }
  }
}
