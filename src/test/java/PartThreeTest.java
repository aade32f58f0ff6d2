/** Promises 29 to 43: parts III and IV but for the image. */
public final class PartThreeTest {
  private static final Check C = new Check("PartThreeTest");
  // 0 may own to 0 (1 month) and 1 (9 months), 1 only to 0.
  private static final String TWO = "d00;d04;p00037;p00017;";
  private static final String SIX =
      "d03;d15;d29;d34;d48;d57;p41277;p00632;p90157;p50016;p20127;p61274;a50;x45;";

  public static void main(String[] args) {
    spared();
    keepers();
    swaps();
    heavier();
    bestDid();
    rests();
    evenOrders();
    lastWords();
    bribes();
    latestPlaces();
    truths();
    paroles();
    newBrothers();
    madeLight();
    always();
    byCalls();
    C.end();
  }

  private static void spared() {
    C.promise(29);
    C.same("spared()", Check.told(TWO).spared(), 2);
    C.same("spared(): with nobody", Check.told("d00;d00;").spared(), 3);
    C.same("spared(): another as light", Check.told("d00;d00;d05;p01277;").spared(), 7);
    C.same("spared(): none is as light", Check.told("d00;d01;p01277;").spared(), 2);
    C.same("spared() of none", Check.told("p01277;").spared(), 0);
  }

  private static void keepers() {
    C.promise(30);
    C.same("keeper()", Check.told(TWO + "b01;").keeper(), 0);
    C.same("keeper(): no brothers", Check.told(TWO).keeper(), -9);
    C.same("keeper(): 0 is the last", Check.told(TWO + "b01;x01;").keeper(), 1);
    C.same("keeper(): by FROM THE LAST BACK 1 has one already",
        Check.told(TWO + "b01;").fromLast(1, 0), 0);
    C.same("keeper(): the fewest months",
        Check.told("d00;d01;p00027;p00027;p00017;p00017;b01;b23;").keeper(), 2);
    C.same("keeper(): of several the least",
        Check.told("d00;d00;p00017;p00017;p00027;p00027;b01;b23;").keeper(), 0);
    C.same("keeper(): his brother has as many",
        Check.told("d00;d00;p00017;p00027;b01;").keeper(), -9);
  }

  private static void swaps() {
    C.promise(31);
    // 0 leaves the LIGHT one for his brother 2, who would rather have the FORGERY.
    AccusedChoose x = Check.told("d51;d44;d24;d36;p20052;p60097;p70055;b20;");
    C.same("fromLast(0, 0)", x.fromLast(0, 0), 0);
    C.same("fromLast(2, 0)", x.fromLast(2, 0), 2);
    C.same("swaps(0)", x.swaps(0), 2);
    C.same("swaps(1)", x.swaps(1), 0);
    x.alibi(2, 0);
    C.same("swaps(0): one may not", x.swaps(0), -9);
    C.same("swaps(1): one may not", x.swaps(1), 1);
    C.same("swaps(0)", Check.told(TWO + "b01;").swaps(0), -9);
    C.same("swaps(1)", Check.told(TWO + "b01;").swaps(1), 1);
    String deeds = "d51;d44;d24;d36;";
    C.same("swaps(0): 0 and 1", Check.told(deeds + "p20052;p70055;p60097;b10;x12;").swaps(0), 1);
    C.same("swaps(0): 1 and 2", Check.told(deeds + "p60097;p20052;p70055;b12;x01;").swaps(0), 12);
    C.same("swaps(1): 1 and 2", Check.told(deeds + "p60097;p20052;p70055;b12;x01;").swaps(1), 0);
    C.same("swaps(1) of nobody", new AccusedChoose().swaps(1), 1);
  }

  private static void heavier() {
    C.promise(32);
    AccusedChoose x = Check.told(TWO);
    C.same("heavier(0, 0): of two alike the least", x.heavier(0, 0), 4);
    C.same("heavier(1, 0): when 0 leaves it", x.heavier(1, 0), 9);
    C.same("heavier(0, 1)", x.heavier(0, 1), -9);
    C.same("heavier(1, 1): he may not", x.heavier(1, 1), -9);
    C.same("deed(0, 1): it stays", x.deed(0, 1), 0);
    C.same("heavier(0, 1): lighter than it is", Check.told("d01;d05;p00037;").heavier(0, 1), 0);
  }

  private static void bestDid() {
    C.promise(33);
    C.same("bestDid(0)", Check.told("d01;p00017;").bestDid(0), 0);
    C.same("bestDid(0): the other one", Check.told("d39;d05;p00037;").bestDid(0), 1);
    C.same("bestDid(0): he may none", Check.told("d00;p00007;").bestDid(0), 7);
    C.same("bestDid(0): of several the least", Check.told("d00;d09;p00037;").bestDid(0), 0);
    C.same("bestDid(0): not what he may not", Check.told("d09;d05;p00037;a01;").bestDid(0), 0);
    // As the second he finds only 1, whatever he DID.
    C.same("bestDid(1)", Check.told("d00;d05;p00017;p00037;").bestDid(1), 1);
    // To have done one takes nothing off here: 7 is behind it.
    AccusedChoose x = Check.told("d00;d00;p00037;p00027;");
    C.same("bestDid(1): 1 or 7", x.bestDid(1), 1);
    C.same("person(1, 2): it stays", x.person(1, 2), 7);
  }

  private static void rests() {
    C.promise(34);
    AccusedChoose x = Check.told(TWO);
    C.same("rest(0)", x.rest(0), 2);
    C.same("rest(1)", x.rest(1), 10);
    C.same("rest(2)", x.rest(2), 0);
    AccusedChoose none = Check.told("d00;d00;p00007;");
    C.same("rest(0): nobody may", none.rest(0), 0);
    C.same("rest(1): nobody may", none.rest(1), 0);
    C.same("rest(2): nobody may", none.rest(2), 3);
    AccusedChoose seven = Check.told("d00;d01;d02;d03;d04;d05;d06;p01277;");
    C.same("rest(0): one by one", seven.rest(0), 7);
    C.same("rest(1): one by one", seven.rest(1), 49);
    C.same("rest(2): one by one", seven.rest(2), 0);
  }

  private static void evenOrders() {
    C.promise(35);
    AccusedChoose x = Check.told(TWO);
    C.same("even(-1)", x.even(-1), 9);
    C.same("even(0)", x.even(0), 1);
    C.same("even(1)", x.even(1), 0);
    C.same("even(2)", x.even(2), -9);
    // All MONTHS are fewer by the other ORDER: 73, with one of 60.
    AccusedChoose y = Check.told("d09;d37;p00017;p20030;");
    C.same("even(-1)", y.even(-1), 57);
    C.same("even(0)", y.even(0), 0);
    C.same("even(1)", y.even(1), 1);
    C.same("even(0): the first such", Check.told("d00;p00017;p00017;x01;").even(0), 0);
    C.same("even(-1) of nobody", new AccusedChoose().even(-1), 0);
    C.same("even(0) of nobody", new AccusedChoose().even(0), -9);
  }

  private static void lastWords() {
    C.promise(36);
    AccusedChoose x = Check.told("d00;d04;p00037;p00017;p00027;");
    C.same("lastWord(2): as they are", x.lastWord(2), 9);
    C.same("lastWord(0)", x.lastWord(0), 60);
    x.change(0, 1);
    C.same("lastWord(2): turned round", x.lastWord(2), 9);
    C.same("lastWord(0)", Check.told(TWO).lastWord(0), 9);
    C.same("lastWord(1)", Check.told(TWO).lastWord(1), 60);
    C.same("lastWord(0): alone", Check.told("d00;p00017;").lastWord(0), 1);
  }

  private static void bribes() {
    C.promise(37);
    C.same("bribe(0)", Check.told(TWO).bribe(0), 1);
    C.same("bribe(1)", Check.told(TWO).bribe(1), 51);
    C.same("bribe(0): none", Check.told("d00;p00017;p00017;").bribe(0), -9);
    C.same("bribe(1): none", Check.told("d00;p00017;p00017;").bribe(1), -9);
    C.same("bribe(0): not with 0", Check.told("d00;d04;p00007;p00037;p00017;").bribe(0), 12);
    // 0 and 2 have 20 now and 16 then; others save more, but have more then.
    C.same("bribe(0): fewest then", Check.told(SIX).bribe(0), 2);
    C.same("bribe(1): fewest then", Check.told(SIX).bribe(1), 4);
  }

  private static void latestPlaces() {
    C.promise(38);
    AccusedChoose x = Check.told(TWO);
    C.same("latest(0, 0)", x.latest(0, 0), 0);
    C.same("latest(0, 1)", x.latest(0, 1), 9);
    C.same("latest(1, 0)", x.latest(1, 0), 0);
    C.same("latest(1, 1)", x.latest(1, 1), 60);
    AccusedChoose y = Check.told("d00;d00;p00037;p00037;p00037;x02;");
    C.same("latest(0, 0)", y.latest(0, 0), 1);
    C.same("latest(2, 0)", y.latest(2, 0), 1);
    C.same("latest(2, 1)", y.latest(2, 1), 60);
    C.same("latest(1, 0): nobody else may", Check.told("d00;p00007;p00017;").latest(1, 0), 1);
    C.same("latest(1, 1): nobody else may", Check.told("d00;p00007;p00017;").latest(1, 1), 1);
    C.same("latest(0, 1): the first is the worst",
        Check.told("d39;p00017;p00017;").latest(0, 1), 66);
  }

  private static void truth(String night, int all, int ones) {
    C.same("truth(0) of " + night, Check.told(night).truth(0), all);
    C.same("truth(1) of " + night, Check.told(night).truth(1), ones);
  }

  private static void truths() {
    C.promise(39);
    truth("d00;d04;p00031;p00017;", 7, 1);
    truth("d00;d04;p00031;p00017;a01;", 61, 0);
    truth("d00;d04;p00030;p00030;", 10, 1);
    truth("d00;d04;p00036;p00017;", 61, 0);
    truth("d00;d04;p00031;p00010;", 7, 2);
    truth("d39;p00010;", 44, 1);
    truth("", 0, 0);
  }

  private static void paroles() {
    C.promise(40);
    C.same("parole()", Check.told("d10;p90017;").parole(), 0);
    C.same("parole(): the most", Check.told("d10;d10;p40037;p90037;").parole(), 1);
    C.same("parole(): of several the least", Check.told("d10;d10;p40037;p40037;").parole(), 0);
    C.same("parole(): a FORGERY is lighter with a record", Check.told("d59;p90017;").parole(), -9);
    C.same("parole(): no records", Check.told("d10;p00017;").parole(), -9);
    AccusedChoose x = Check.told("d10;p90017;");
    x.parole();
    C.same("person(0, 0): it stays", x.person(0, 0), 9);
  }

  private static void newBrothers() {
    C.promise(41);
    C.same("newBrothers()", Check.told(TWO).newBrothers(), 1);
    C.same("newBrothers(): they are", Check.told(TWO + "b01;").newBrothers(), -9);
    AccusedChoose x = Check.told("d00;d04;p00007;p00037;p00017;b01;");
    C.same("newBrothers()", x.newBrothers(), 12);
    C.same("person(1, 3): it stays", x.person(1, 3), 0);
    // Were 0 and 2 BROTHERS, 1 would lose his: that makes none fewer.
    C.same("newBrothers(): a BROTHER lost",
        Check.told("d00;d04;p00037;p00017;p00017;b01;").newBrothers(), -9);
    C.same("newBrothers(): of several the least",
        Check.told("d00;d04;p00037;p00017;p00017;").newBrothers(), 1);
  }

  private static void madeLight() {
    C.promise(42);
    C.same("madeLight()", Check.told("d09;d04;p00017;p00027;").madeLight(), 0);
    C.same("madeLight(): the most", Check.told("d04;d09;p00017;p00027;").madeLight(), 1);
    C.same("madeLight(): of several the least", Check.told("d04;d04;p00017;p00027;").madeLight(), 0);
    C.same("madeLight(): it is light", Check.told("d29;p00017;").madeLight(), -9);
    C.same("madeLight(): a FOG", Check.told("d40;p00017;").madeLight(), 0);
    C.same("madeLight(): he could not have done it", Check.told("d50;p00007;").madeLight(), -9);
    AccusedChoose x = Check.told("d09;p00017;");
    x.madeLight();
    C.same("deed(0, 0): it stays", x.deed(0, 0), 0);
  }

  /** What would be if is reckoned from the night as it is, not as it was last told. */
  private static void byCalls() {
    C.promise(32);
    C.same("heavier(0, 0)", Check.made(TWO).heavier(0, 0), 4);
    C.promise(33);
    C.same("bestDid(0)", Check.made("d39;d05;p00037;").bestDid(0), 1);
    C.promise(40);
    C.same("parole()", Check.made("d10;d10;p40037;p90037;").parole(), 1);
    C.promise(41);
    C.same("newBrothers()", Check.made(TWO).newBrothers(), 1);
    C.promise(42);
    C.same("madeLight()", Check.made("d04;d09;p00017;p00027;").madeLight(), 1);
    C.promise(31);
    C.same("swaps(0)", Check.made("d51;d44;d24;d36;p20052;p60097;p70055;b20;").swaps(0), 2);
  }

  private static void always() {
    C.promise(43);
    C.same("always()", Check.told(TWO).always(), 1);
    C.same("always(): the first as the last",
        Check.told("d00;d04;p00017;p00037;p00017;").always(), 1);
    C.same("always(): turned round",
        Check.told("d00;d04;p00017;p00017;p00037;").always(), 1);
    C.same("always(): as it is",
        Check.told("d00;d04;p00037;p00017;p00017;").always(), 1);
    // 1, 2, 0: 1 takes 0, 2 takes 1, and nobody takes 2; by the others somebody does.
    C.same("always(): only the first as the last leaves one",
        Check.told("d00;d01;d02;p00027;p00057;p00077;").always(), 3);
    C.same("always(): both", Check.told("d00;d04;p00037;p00037;").always(), 3);
    C.same("always() of nobody", Check.told("d00;").always(), 0);
  }
}
