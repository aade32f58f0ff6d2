/** Promises 1 to 12: deeds, people, nights told in letters, what is taken back. */
public final class PartOneTest {
  private static final Check C = new Check("PartOneTest");
  private static final String ALL_KINDS = "d05;d15;d25;d35;d45;d55;";

  public static void main(String[] args) {
    newObject();
    letters();
    nights();
    faultsOfForm();
    faultsOfSense();
    nightsAllOrNothing();
    deedsAndPeople();
    may();
    monthsOfKinds();
    addDeeds();
    addPeople();
    changes();
    alibis();
    brothers();
    takenBack();
    whatLeavesNone();
    C.end();
  }

  private static void newObject() {
    C.promise(1);
    AccusedChoose x = new AccusedChoose();
    for (int what = 0; what <= 6; what++) {
      C.same("count(" + what + ")", x.count(what), 0);
    }
    for (int what = 11; what <= 16; what++) {
      C.same("count(" + what + ")", x.count(what), 0);
    }
    C.same("morning(0)", x.morning(0), -9);
    C.same("morning(1)", x.morning(1), 0);
    C.same("deed(0, 0)", x.deed(0, 0), -1);
    C.same("person(0, 0)", x.person(0, 0), -1);
  }

  private static void letters() {
    C.promise(2);
    AccusedChoose x = new AccusedChoose();
    C.same("feed(0)", x.feed(0), 1);
    C.same("feed(255)", x.feed(255), 2);
    C.same("count(4)", x.count(4), 2);
    for (int i = 3; i <= 96; i++) {
      C.same("feed(100)", x.feed(100), i);
    }
    C.same("feed(100) with 96", x.feed(100), -6);
    C.same("feed(-1) with 96", x.feed(-1), -4);
    C.same("count(4)", x.count(4), 96);
    C.same("count(14)", x.count(14), 1);
    C.same("count(16)", x.count(16), 1);
  }

  private static void told(String text, int due) {
    AccusedChoose x = new AccusedChoose();
    Check.feedAll(x, text);
    C.same("night() of " + text, x.night(), due);
    C.same("count(4) behind it", x.count(4), 0);
    for (int what = 11; what <= 16; what++) {
      C.same("count(" + what + ") behind it", x.count(what), 0);
    }
    if (due < 0) {
      C.same("count(0) behind a fault", x.count(0), 0);
      C.same("count(1) behind a fault", x.count(1), 0);
    }
  }

  private static void nights() {
    C.promise(3);
    told("d00;", 1);
    told("d59;", 1);
    told("p91277;", 1);
    told("p00000;", 1);
    told("d03;d15;d29;d34;d48;d57;p41277;p00632;p90157;p50016;p20127;", 11);
    told("d00;p00017;a00;", 3);
    told("p00000;p00000;b01;x01;b10;x10;", 6);
    told("d00;d01;d02;d03;d04;d05;d06;", 7);
    told("p00000;p00000;p00000;p00000;p00000;p00000;p00000;", 7);

    AccusedChoose x = Check.told("d00;d19;p41277;p00632;p90157;a01;a21;a21;b01;b12;x02;");
    C.same("deed(1, 0)", x.deed(1, 0), 1);
    C.same("deed(1, 1)", x.deed(1, 1), 9);
    C.same("person(0, 0)", x.person(0, 0), 4);
    C.same("person(0, 1)", x.person(0, 1), 127);
    C.same("person(1, 2)", x.person(1, 2), 2);
    C.same("person(0, 3)", x.person(0, 3), -9);
    C.same("person(1, 3)", x.person(1, 3), 2);
    C.same("person(2, 3)", x.person(2, 3), 1);
    C.same("person(0, 5)", x.person(0, 5), 2);
    C.same("person(2, 5)", x.person(2, 5), 0);
    C.same("person(0, 4)", x.person(0, 4), 2);
    C.same("person(2, 4)", x.person(2, 4), 0);
    Check.feedAll(x, "p10003;");
    C.same("night()", x.night(), 1);
    C.same("person(3, 4): last in ORDER", x.person(3, 4), 3);
  }

  private static void faultsOfForm() {
    told("", -1000);
    told(";", -1000);
    told("D00;", -1000);
    told("0", -1000);
    told("d", -1001);
    told("dd", -1001);
    told("d0", -1002);
    told("d0;", -1002);
    told("d00", -1003);
    told("d000", -1003);
    told("d00 ", -1003);
    told("d00;;", -1004);
    told("d00;c00;", -1004);
    told("d/0;", -1001);
    told("d:0;", -1001);
    told("p0000;", -1005);
    told("p00000", -1006);
    told("p000000;", -1006);
    told("b0", -1002);
    told("a00", -1003);
    told("x", -1001);
    told("d00;p00000;d1", -1013);
    told("d00;d", -1005);
    // The form of all of it comes before the sense of any of it.
    told("d60;d", -1005);
    told("b00;?", -1004);
  }

  private static void faultsOfSense() {
    told("d60;", -2000);
    told("d90;", -2000);
    told("d00;d60;", -2004);
    told("p01280;", -2000);
    told("p09990;", -2000);
    told("p01278;", -2000);
    told("p01279;", -2000);
    told("b01;", -2000);
    told("p00000;b01;", -2007);
    told("p00000;b10;", -2007);
    told("p00000;p00000;b11;", -2014);
    told("p00000;p00000;x11;", -2014);
    told("p00000;p00000;x02;", -2014);
    told("a00;", -2000);
    told("p00000;a00;", -2007);
    told("d00;a00;", -2004);
    told("d00;p00000;a01;", -2011);
    told("d00;p00000;a10;", -2011);
    told("a00;d00;p00000;", -2000);
    told("d00;d00;d00;d00;d00;d00;d00;d00;", -2028);
    told("p00000;p00000;p00000;p00000;p00000;p00000;p00000;p00000;", -2049);
    told("d00;d70;d60;", -2004);
  }

  private static void nightsAllOrNothing() {
    AccusedChoose x = Check.told("d03;p41277;p41277;");
    C.same("change(0, 1)", x.change(0, 1), 1);
    Check.feedAll(x, "d11;a00;b01;x01;a05;");
    C.same("night()", x.night(), -2016);
    C.same("count(1)", x.count(1), 1);
    C.same("person(0, 5)", x.person(0, 5), 0);
    C.same("person(0, 3)", x.person(0, 3), -9);
    C.same("person(0, 4)", x.person(0, 4), 1);
    C.same("count(6): a fault takes nothing away", x.count(6), 1);
    C.same("count(4)", x.count(4), 0);
    Check.feedAll(x, "d11;");
    C.same("night()", x.night(), 1);
    C.same("count(6)", x.count(6), 0);
    C.same("person(0, 4): still behind", x.person(0, 4), 1);
    C.same("count(1)", x.count(1), 2);
    C.same("night() of none", x.night(), -1000);
  }

  private static void deedsAndPeople() {
    C.promise(4);
    AccusedChoose x = Check.told("d03;d59;p41277;p00632;");
    C.same("deed(0, 0)", x.deed(0, 0), 0);
    C.same("deed(0, 1)", x.deed(0, 1), 3);
    C.same("deed(1, 0)", x.deed(1, 0), 5);
    C.same("deed(1, 1)", x.deed(1, 1), 9);
    C.promise(5);
    C.same("person(0, 0)", x.person(0, 0), 4);
    C.same("person(0, 1)", x.person(0, 1), 127);
    C.same("person(0, 2)", x.person(0, 2), 7);
    C.same("person(0, 3)", x.person(0, 3), -9);
    C.same("person(0, 4)", x.person(0, 4), 0);
    C.same("person(0, 5)", x.person(0, 5), 0);
    C.same("person(0, 6)", x.person(0, 6), 3);
    C.same("person(1, 1)", x.person(1, 1), 63);
    C.same("person(1, 2)", x.person(1, 2), 2);
    C.same("person(1, 4)", x.person(1, 4), 1);
  }

  private static void may() {
    AccusedChoose x = Check.told("d00;d50;d11;p00057;p00007;a01;a12;");
    // 0 could 0 and 2, and has an ALIBI for the FORGERY 1; 1 could none, and the FORGERY is left.
    C.same("person(0, 6)", x.person(0, 6), 5);
    C.same("person(1, 6)", x.person(1, 6), 2);
    x.alibi(0, 1);
    C.same("person(0, 6)", x.person(0, 6), 7);
    x.alibi(0, 0);
    C.same("person(0, 6)", x.person(0, 6), 6);
    AccusedChoose y = Check.told("p01277;");
    C.same("person(0, 6) with no deeds", y.person(0, 6), 0);
    y.addDeed(0, 0);
    C.same("person(0, 6): COULD of one that came later", y.person(0, 6), 1);
  }

  private static void monthsOfKinds() {
    C.promise(6);
    int[] plain = {11, 18, 5, 54, 6, 9};
    int[] did = {8, 12, 4, 36, 4, 6};
    for (int kind = 0; kind < 6; kind++) {
      AccusedChoose x = Check.told(ALL_KINDS + "p90007;p9000" + kind + ";");
      C.same("months(0, " + kind + ")", x.months(0, kind), plain[kind]);
      C.same("months(1, " + kind + ")", x.months(1, kind), did[kind]);
    }
    AccusedChoose x = Check.told("d00;d10;d20;d30;d40;d50;p00007;p90005;p50007;");
    int[] light = {1, 4, 0, 12, 1, 4};
    for (int kind = 0; kind < 6; kind++) {
      C.same("months(0, " + kind + ") of figure 0", x.months(0, kind), light[kind]);
    }
    // 4 and half of 9 less 9 were below 1; half of a RECORD of 5 is 2, cut.
    C.same("months(1, 5)", x.months(1, 5), 1);
    C.same("months(2, 1)", x.months(2, 1), 6);
    C.same("months(2, 3)", x.months(2, 3), 18);
    C.same("months(2, 5)", x.months(2, 5), 1);
  }

  private static void addDeeds() {
    C.promise(7);
    AccusedChoose x = new AccusedChoose();
    for (int i = 0; i < 7; i++) {
      C.same("addDeed", x.addDeed(i % 6, 9 - i), i);
      C.same("deed(i, 0)", x.deed(i, 0), i % 6);
      C.same("deed(i, 1)", x.deed(i, 1), 9 - i);
    }
    C.same("addDeed(0, 0) with 7", x.addDeed(0, 0), -6);
    C.same("addDeed(0, -1) with 7", x.addDeed(0, -1), -4);
    C.same("addDeed(6, 0) with 7", x.addDeed(6, 0), -2);
    C.same("count(1)", x.count(1), 7);
  }

  private static void addPeople() {
    C.promise(8);
    AccusedChoose x = new AccusedChoose();
    for (int i = 0; i < 7; i++) {
      C.same("addPerson", x.addPerson(9 - i, 127 - i, i), i);
      C.same("person(i, 0)", x.person(i, 0), 9 - i);
      C.same("person(i, 1)", x.person(i, 1), 127 - i);
      C.same("person(i, 2)", x.person(i, 2), i);
      C.same("person(i, 3)", x.person(i, 3), -9);
      C.same("person(i, 4)", x.person(i, 4), i);
    }
    C.same("addPerson(0, 0, 0) with 7", x.addPerson(0, 0, 0), -6);
    C.same("addPerson(0, 0, -1) with 7", x.addPerson(0, 0, -1), -4);
    C.same("count(0)", x.count(0), 7);
    C.same("addPerson(9, 127, 7)", new AccusedChoose().addPerson(9, 127, 7), 0);
  }

  private static void changes() {
    C.promise(9);
    AccusedChoose x = Check.told("p00000;p00000;p00000;");
    C.same("change(0, 2)", x.change(0, 2), 2);
    C.same("person(0, 4)", x.person(0, 4), 2);
    C.same("person(1, 4)", x.person(1, 4), 1);
    C.same("person(2, 4)", x.person(2, 4), 0);
    C.same("change(0, 1)", x.change(0, 1), 1);
    C.same("change(0, 2)", x.change(0, 2), 0);
    C.same("person(1, 4)", x.person(1, 4), 2);
  }

  private static void alibis() {
    C.promise(10);
    AccusedChoose x = Check.told("d00;d00;p01277;p01277;");
    C.same("alibi(0, 1)", x.alibi(0, 1), 1);
    C.same("person(0, 5)", x.person(0, 5), 2);
    C.same("person(0, 6)", x.person(0, 6), 1);
    C.same("person(1, 5)", x.person(1, 5), 0);
    C.same("alibi(0, 0)", x.alibi(0, 0), 1);
    C.same("person(0, 5)", x.person(0, 5), 3);
    C.same("count(3)", x.count(3), 2);
    C.same("alibi(0, 1)", x.alibi(0, 1), 0);
    C.same("person(0, 5)", x.person(0, 5), 1);
  }

  private static void brothers() {
    C.promise(11);
    AccusedChoose x = Check.told("p00000;p00000;p00000;p00000;");
    C.same("brothers(0, 1)", x.brothers(0, 1), -9);
    C.same("person(0, 3)", x.person(0, 3), 1);
    C.same("person(1, 3)", x.person(1, 3), 0);
    C.same("brothers(0, 1) again", x.brothers(0, 1), 1);
    C.same("brothers(2, 3)", x.brothers(2, 3), -9);
    C.same("brothers(3, 0)", x.brothers(3, 0), 2);
    C.same("person(0, 3)", x.person(0, 3), 3);
    C.same("person(1, 3)", x.person(1, 3), -9);
    C.same("person(2, 3)", x.person(2, 3), -9);
    C.same("person(3, 3)", x.person(3, 3), 0);
  }

  private static void takenBack() {
    C.promise(12);
    AccusedChoose x = Check.told("d00;p01277;p01277;p01277;p01277;b01;b23;");
    x.brothers(0, 2);
    x.change(0, 3);
    x.alibi(1, 0);
    C.same("count(6)", x.count(6), 3);
    C.same("back()", x.back(), 2);
    C.same("person(1, 5)", x.person(1, 5), 0);
    C.same("person(0, 4)", x.person(0, 4), 3);
    C.same("back()", x.back(), 1);
    C.same("person(0, 4)", x.person(0, 4), 0);
    C.same("person(3, 4)", x.person(3, 4), 3);
    C.same("person(0, 3)", x.person(0, 3), 2);
    C.same("back()", x.back(), 0);
    C.same("person(0, 3)", x.person(0, 3), 1);
    C.same("person(1, 3)", x.person(1, 3), 0);
    C.same("person(2, 3)", x.person(2, 3), 3);
    C.same("person(3, 3)", x.person(3, 3), 2);
    C.same("back()", x.back(), -3);
    // One that leaves all as it was counts, too; one that is refused does not.
    x.brothers(0, 1);
    C.same("count(6)", x.count(6), 1);
    x.brothers(0, 0);
    x.change(0, 9);
    x.alibi(0, 5);
    C.same("count(6)", x.count(6), 1);
    C.same("back()", x.back(), 0);
    C.same("person(0, 3)", x.person(0, 3), 1);
    C.same("person(1, 3)", x.person(1, 3), 0);
    eightAtMost();
  }

  private static void eightAtMost() {
    AccusedChoose x = Check.told("d00;d00;d00;d00;d00;p01277;p01277;");
    x.change(0, 1);
    for (int i = 0; i < 5; i++) {
      x.alibi(0, i);
    }
    for (int i = 0; i < 4; i++) {
      x.alibi(1, i);
      C.same("count(6)", x.count(6), Math.min(8, 7 + i));
    }
    for (int i = 7; i >= 0; i--) {
      C.same("back()", x.back(), i);
    }
    C.same("back()", x.back(), -3);
    // The first two, the change and the ALIBI for 0, can't be taken back any more.
    C.same("person(0, 4)", x.person(0, 4), 1);
    C.same("person(0, 5)", x.person(0, 5), 1);
    C.same("person(1, 5)", x.person(1, 5), 0);
  }

  private static void whatLeavesNone() {
    AccusedChoose x = Check.told("d00;p01277;p01277;");
    x.alibi(0, 0);
    x.feed(';');
    x.night();
    x.row(3);
    x.clear();
    x.image();
    x.morning(1);
    x.addDeed(9, 9);
    x.addPerson(-1, 0, 0);
    C.same("count(6): letters, the ROW, an image, refusals leave it", x.count(6), 1);
    x.addDeed(0, 0);
    C.same("count(6) behind addDeed", x.count(6), 0);
    x.alibi(0, 0);
    x.addPerson(0, 0, 0);
    C.same("count(6) behind addPerson", x.count(6), 0);
    x.alibi(0, 0);
    Check.feedAll(x, "x01;");
    x.night();
    C.same("count(6) behind night", x.count(6), 0);
    x.alibi(0, 0);
    x.restore();
    C.same("count(6) behind restore", x.count(6), 0);
    C.same("back()", x.back(), -3);
  }
}
