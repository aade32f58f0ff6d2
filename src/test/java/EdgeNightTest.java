/** Part I and the letters at their edges: each case behind the words of the document that name it. */
public final class EdgeNightTest {
  private static final Check C = new Check("EdgeNightTest");
  private static final String SEVEN_DEEDS = "d00;d01;d02;d03;d04;d05;d06;";
  private static final String SEVEN_PEOPLE =
      "p01277;p01277;p01277;p01277;p01277;p01277;p01277;";

  public static void main(String[] args) {
    calls();
    nothingAtFirst();
    deeds();
    kindsAndFigures();
    people();
    records();
    could();
    did();
    brothersAndOrder();
    alibis();
    may();
    monthsOfDeedAndTheft();
    monthsOfLightGraveFog();
    monthsOfForgery();
    aThirdLess();
    lettersAtTheirEdges();
    statementsTakeDigits();
    whereTheFormBreaks();
    whereSomethingLacks();
    rangesOfStatements();
    noSuchOne();
    noRoom();
    behindAllAhead();
    allOrNothing();
    lastInOrder();
    brothersInLetters();
    alibisInLetters();
    changesInLetters();
    eachThatIsNotRefused();
    latestFirst();
    eightAtMost();
    olderOnesStay();
    leavesNone();
    C.end();
  }

  private static void calls() {
    C.promise(1);
    C.says("An object is used for at most 512 calls after it has been made");
    AccusedChoose x = new AccusedChoose();
    for (int i = 0; i < 509; i++) {
      x.person(0, 0);
    }
    C.same("addDeed(0, 0) as the 510th", x.addDeed(0, 0), 0);
    C.same("addPerson(0, 1, 7) as the 511th", x.addPerson(0, 1, 7), 0);
    C.same("count(11) as the 512th", x.count(11), 509);
    AccusedChoose y = new AccusedChoose();
    for (int i = 0; i < 511; i++) {
      y.feed(i < 96 ? 'd' : 0);
    }
    C.same("count(16) as the 512th", y.count(16), 415);
  }

  private static void nothingAtFirst() {
    C.says("No DEEDS, nobody.");
    AccusedChoose x = new AccusedChoose();
    for (int what : new int[] {0, 1, 2, 3, 4, 5, 6, 11, 12, 13, 14, 15, 16}) {
      C.same("count(" + what + ")", x.count(what), 0);
    }
    C.same("night(): no letters", x.night(), -1000);
    C.same("clear(): no ROW", x.clear(), 0);
    C.same("back(): nothing to take back", x.back(), -3);
    C.same("restore(): no image", x.restore(), -3);
    C.same("image(): nobody", x.image(), 0);
    C.same("restore(): nobody", x.restore(), 0);
  }

  private static void deeds() {
    C.promise(7);
    C.says("DEEDS 0 .. 6 as they come (7 at most)");
    AccusedChoose x = new AccusedChoose();
    for (int i = 0; i < 7; i++) {
      C.same("addDeed, the " + i + "th", x.addDeed(i % 6, i), i);
    }
    C.same("addDeed, the eighth", x.addDeed(0, 0), -6);
    for (int i = 0; i < 7; i++) {
      C.same("deed(" + i + ", 0)", x.deed(i, 0), i % 6);
      C.same("deed(" + i + ", 1)", x.deed(i, 1), i);
    }
    AccusedChoose y = new AccusedChoose();
    for (int i = 0; i < 5; i++) {
      y.addDeed(0, i);
    }
    Check.feedAll(y, "d15;d26;");
    C.same("night(): the sixth and the seventh", y.night(), 2);
    C.same("deed(6, 1)", y.deed(6, 1), 6);
    C.same("addDeed behind them", y.addDeed(0, 0), -6);
    Check.feedAll(y, "d00;");
    C.same("night(): the eighth", y.night(), -2000);
    C.same("count(1)", y.count(1), 7);
  }

  private static void kindsAndFigures() {
    C.says("a FIGURE (0 .. 9)");
    for (int kind = 0; kind <= 5; kind++) {
      int k = kind;
      C.takes("", "addDeed(" + k + ", 0)", x -> x.addDeed(k, 0), 0);
      C.takes("", "addDeed(" + k + ", 9), then its KIND", x -> x.addDeed(k, 9) + x.deed(0, 0), k);
      C.takes("", "addDeed(" + k + ", 9), then its FIGURE", x -> x.addDeed(k, 9) + x.deed(0, 1), 9);
      C.takes("", "addDeed(" + k + ", 0), then its FIGURE", x -> x.addDeed(k, 0) + x.deed(0, 1), 0);
    }
  }

  private static void people() {
    C.promise(8);
    C.says("PEOPLE 0 .. 6 as they come (7 at most)");
    AccusedChoose x = new AccusedChoose();
    for (int i = 0; i < 7; i++) {
      C.same("addPerson, the " + i + "th", x.addPerson(i, 10 * i, i), i);
    }
    C.same("addPerson, the eighth", x.addPerson(0, 0, 0), -6);
    for (int i = 0; i < 7; i++) {
      C.same("person(" + i + ", 0)", x.person(i, 0), i);
      C.same("person(" + i + ", 1)", x.person(i, 1), 10 * i);
      C.same("person(" + i + ", 2)", x.person(i, 2), i);
    }
    AccusedChoose y = new AccusedChoose();
    for (int i = 0; i < 6; i++) {
      y.addPerson(0, 0, 0);
    }
    Check.feedAll(y, "p91277;");
    C.same("night(): the seventh", y.night(), 1);
    C.same("person(6, 1)", y.person(6, 1), 127);
    C.same("addPerson behind it", y.addPerson(0, 0, 0), -6);
    Check.feedAll(y, "p00000;");
    C.same("night(): the eighth", y.night(), -2000);
    C.same("count(0)", y.count(0), 7);
  }

  private static void records() {
    C.says("a RECORD (0 .. 9)");
    C.takes("", "addPerson(0, 0, 0)", x -> x.addPerson(0, 0, 0), 0);
    C.takes("", "addPerson(0, ..), then RECORD", x -> x.addPerson(0, 127, 7) + x.person(0, 0), 0);
    C.takes("", "addPerson(9, ..), then RECORD", x -> x.addPerson(9, 127, 7) + x.person(0, 0), 9);
    C.promise(51);
    C.says("2 all RECORDS");
    C.same("count(2) of seven with 9", Check.told("p90007;".repeat(7)).count(2), 63);
    C.same("count(2) of seven with 0", Check.told("p00007;".repeat(7)).count(2), 0);
    C.same("count(2) of 1 and 8", Check.told("p10007;p80007;").count(2), 9);
  }

  private static void could() {
    C.promise(8);
    C.says("COULD (DEEDS as bits 0 .. 127; of those that come later, too)");
    C.takes("", "addPerson(0, 0, 7), then COULD", x -> x.addPerson(0, 0, 7) + x.person(0, 1), 0);
    C.takes("", "addPerson(0, 127, 7), then COULD",
        x -> x.addPerson(0, 127, 7) + x.person(0, 1), 127);
    AccusedChoose all = Check.told("p01277;p00647;p00007;p00017;");
    C.same("person(0, 6): no DEED yet", all.person(0, 6), 0);
    for (int i = 0; i < 7; i++) {
      all.addDeed(0, 0);
      C.same("person(0, 6): all that came", all.person(0, 6), (2 << i) - 1);
      C.same("person(1, 6): only the DEED 6", all.person(1, 6), i == 6 ? 64 : 0);
      C.same("person(2, 6): none", all.person(2, 6), 0);
      C.same("person(3, 6): only the DEED 0", all.person(3, 6), 1);
    }
  }

  private static void did() {
    C.says("DID (a DEED 0 .. 6, or 7 none)");
    C.takes("", "addPerson(0, 0, 0), then DID", x -> x.addPerson(0, 0, 0) + x.person(0, 2), 0);
    C.takes("", "addPerson(0, 0, 6), then DID", x -> x.addPerson(0, 0, 6) + x.person(0, 2), 6);
    C.takes("", "addPerson(0, 0, 7), then DID", x -> x.addPerson(0, 0, 7) + x.person(0, 2), 7);
    // Each of the seven has 9 months, and 6 for the one who DID it, though it came later.
    AccusedChoose x = Check.told("p00000;p00006;p00007;" + "d04;".repeat(7));
    for (int deed = 0; deed < 7; deed++) {
      C.same("months(0, " + deed + ")", x.months(0, deed), deed == 0 ? 6 : 9);
      C.same("months(1, " + deed + ")", x.months(1, deed), deed == 6 ? 6 : 9);
      C.same("months(2, " + deed + ")", x.months(2, deed), 9);
    }
  }

  private static void brothersAndOrder() {
    C.promise(5);
    C.says("a BROTHER (another one, or none: none at first; of both at once)");
    AccusedChoose x = Check.told(SEVEN_PEOPLE);
    for (int i = 0; i < 7; i++) {
      C.same("person(" + i + ", 3) at first", x.person(i, 3), -9);
    }
    C.says("whose BROTHER the first was; -9");
    C.same("brothers(6, 0): the first had none", x.brothers(6, 0), -9);
    C.same("brothers(6, 0): the first had this one", x.brothers(6, 0), 0);
    C.same("brothers(5, 0): the first had none, the other one", x.brothers(5, 0), -9);
    C.same("brothers(0, 6): the first had one, the other none", x.brothers(0, 6), 5);
    C.same("person(6, 3)", x.person(6, 3), 0);
    C.same("person(0, 3)", x.person(0, 3), 6);
    C.says("ORDER: as they came at first.");
    for (int i = 0; i < 7; i++) {
      C.same("person(" + i + ", 4) at first", x.person(i, 4), i);
    }
    C.same("change(0, 6): from the first to the last", x.change(0, 6), 6);
    C.same("person(6, 4)", x.person(6, 4), 0);
    C.same("change(0, 6): from the last to the first", x.change(0, 6), 0);
    C.same("change(6, 5)", x.change(6, 5), 5);
    for (int i = 0; i < 7; i++) {
      C.same("person(" + i + ", 4)", x.person(i, 4), i == 5 ? 6 : i == 6 ? 5 : i);
    }
  }

  private static void alibis() {
    C.promise(10);
    C.says("ALIBIS (for one and a DEED; none at first).");
    AccusedChoose x = Check.told(SEVEN_DEEDS + SEVEN_PEOPLE);
    for (int i = 0; i < 7; i++) {
      C.same("person(" + i + ", 5) at first", x.person(i, 5), 0);
    }
    for (int person = 0; person < 7; person++) {
      for (int deed = 0; deed < 7; deed++) {
        C.same("alibi(" + person + ", " + deed + ")", x.alibi(person, deed), 1);
      }
      C.same("person(" + person + ", 5)", x.person(person, 5), 127);
      C.same("person(" + person + ", 6)", x.person(person, 6), 0);
    }
    C.same("count(3): all there can be", x.count(3), 49);
    C.same("alibi(6, 6): none any more", x.alibi(6, 6), 0);
    C.same("person(6, 5)", x.person(6, 5), 63);
    C.same("person(6, 6)", x.person(6, 6), 64);
    C.same("count(3)", x.count(3), 48);
  }

  private static void may() {
    C.promise(5);
    C.says("one MAY own to a DEED that there is, if he COULD and has no ALIBI for it; "
        + "FORGERY: whoever has no ALIBI.");
    AccusedChoose x = Check.told("d00;d10;d20;d30;d40;d50;p00007;p01277;");
    C.same("person(0, 6): he COULD none, and the FORGERY is left", x.person(0, 6), 32);
    C.same("person(1, 6): he COULD all", x.person(1, 6), 63);
    for (int deed = 0; deed < 6; deed++) {
      x.alibi(1, deed);
      C.same("person(1, 6): less those with an ALIBI", x.person(1, 6), 63 & -(2 << deed));
    }
    x.alibi(0, 5);
    C.same("person(0, 6): an ALIBI for the FORGERY", x.person(0, 6), 0);
    C.same("person(0, 6): the last DEED a FORGERY",
        Check.told("d00;d00;d00;d00;d00;d00;d50;p00007;").person(0, 6), 64);
  }

  // ---- MONTHS

  private static void months(int kind, int figure, int record, int due) {
    AccusedChoose x = new AccusedChoose();
    x.addDeed(kind, figure);
    x.addPerson(record, 0, 7);
    C.same("months of KIND " + kind + ", FIGURE " + figure + ", RECORD " + record,
        x.months(0, 0), due);
  }

  private static void monthsOfDeedAndTheft() {
    C.promise(6);
    C.says("DEED 2 FIGURE plus 1");
    months(0, 0, 0, 1);
    months(0, 0, 9, 1);
    months(0, 9, 0, 19);
    months(0, 9, 9, 19);
    C.says("THEFT a DEED's and 3, and half of RECORD, cut");
    int[] theft = {4, 4, 5, 5, 6, 6, 7, 7, 8, 8};
    for (int held = 0; held <= 9; held++) {
      months(1, 0, held, theft[held]);
      months(1, 9, held, theft[held] + 18);
    }
  }

  private static void monthsOfLightGraveFog() {
    C.says("LIGHT half of a DEED's, cut");
    for (int figure = 0; figure <= 9; figure++) {
      months(2, figure, 0, figure);
      months(2, figure, 9, figure);
    }
    C.says("GRAVE three times a THEFT's");
    months(3, 0, 0, 12);
    months(3, 0, 1, 12);
    months(3, 0, 9, 24);
    months(3, 9, 0, 66);
    months(3, 9, 9, 78);
    C.says("FOG a LIGHT's and 1");
    for (int figure = 0; figure <= 9; figure++) {
      months(4, figure, 0, figure + 1);
      months(4, figure, 9, figure + 1);
    }
  }

  private static void monthsOfForgery() {
    C.says("FORGERY a THEFT's less RECORD, 1 at least");
    int[] lightest = {4, 3, 3, 2, 2, 1, 1, 1, 1, 1};
    int[] heaviest = {22, 21, 21, 20, 20, 19, 19, 18, 18, 17};
    for (int held = 0; held <= 9; held++) {
      months(5, 0, held, lightest[held]);
      months(5, 9, held, heaviest[held]);
    }
    C.says("WITHOUT any: 60.");
    C.same("takes(0, 1) with no DEED", Check.told("p90006;").takes(0, 1), 60);
  }

  private static void his(int kind, int figure, int record, int due) {
    AccusedChoose x = new AccusedChoose();
    x.addDeed(kind, figure);
    x.addPerson(record, 0, 0);
    C.same("months, if he DID it, of KIND " + kind + ", FIGURE " + figure + ", RECORD " + record,
        x.months(0, 0), due);
  }

  private static void aThirdLess() {
    C.says("each a third less (cut off what is taken away), if he DID it");
    // 1, 3, 5, 7: what is taken away is cut to 0, 1, 1, 2.
    his(0, 0, 0, 1);
    his(0, 1, 0, 2);
    his(0, 2, 0, 4);
    his(0, 3, 0, 5);
    his(1, 0, 0, 3);
    his(1, 0, 2, 4);
    his(1, 0, 4, 4);
    his(2, 0, 0, 0);
    his(2, 1, 0, 1);
    his(2, 2, 0, 2);
    his(2, 3, 0, 2);
    his(3, 0, 0, 8);
    his(3, 9, 9, 52);
    his(4, 0, 0, 1);
    his(4, 1, 0, 2);
    his(4, 2, 0, 2);
    his(5, 0, 9, 1);
    his(5, 0, 3, 2);
    his(5, 0, 2, 2);
    his(5, 0, 0, 3);
  }

  // ---- letters

  private static AccusedChoose fed(String night, String text) {
    AccusedChoose x = Check.told(night);
    Check.feedAll(x, text);
    return x;
  }

  /** The text behind a night: what night() answers, and that a fault changes and counts nothing. */
  private static void told(String night, String text, int due) {
    AccusedChoose x = fed(night, text);
    C.same("night() of " + text, x.night(), due);
    C.same("count(4) behind " + text, x.count(4), 0);
    for (int what = 11; what <= 16; what++) {
      C.same("count(" + what + ") behind " + text, x.count(what), 0);
    }
    if (due < 0) {
      C.sameText("night() of " + text, Trace.spend(x), Trace.spend(Check.told(night)));
    }
  }

  private static void told(String text, int due) {
    told("", text, due);
  }

  private static void lettersAtTheirEdges() {
    C.promise(2);
    C.says("-6 (255; 96, too)");
    C.takes("", "feed(0)", x -> x.feed(0), 1);
    C.takes("", "feed(255)", x -> x.feed(255), 1);
    told("" + (char) 0, -1000);
    told("d00;" + (char) 255, -1004);
    C.promise(3);
    C.says("A NIGHT is told in letters, one by one (96 at most)");
    String full = "p00000;p00000;p00000;p00000;d00;" + "x01;".repeat(15) + "a30;";
    AccusedChoose x = new AccusedChoose();
    for (int i = 0; i < 96; i++) {
      C.same("feed", x.feed(full.charAt(i)), i + 1);
    }
    C.same("feed, the 97th", x.feed(';'), -6);
    C.same("night() of 96 letters", x.night(), 21);
    C.same("person(0, 4)", x.person(0, 4), 1);
    C.same("person(3, 5): the last of them", x.person(3, 5), 1);
    C.same("feed behind it", x.feed('d'), 1);
    String most = "d00;p00000;" + "a00;".repeat(20);
    told(most + "p0000", -1096);
    told(most + "d00", -1094);
    told("d00;" + "d00".repeat(30) + "d0", -1007);
    told("d00;p00000;p00000;p00000;p00000;" + "a00;".repeat(15) + "a01;", -2092);
    told("d00;p00000;p00000;p00000;p00000;" + "a00;".repeat(15) + "a00?", -1095);
    C.says("At least one STATEMENT.");
    told("", -1000);
    told("d00;", "", -1000);
    told("d00;", 1);
  }

  private static void statementsTakeDigits() {
    C.says("\"d\" KIND, FIGURE (a digit each): a DEED more");
    C.same("deed(0, 0)", Check.told("d59;").deed(0, 0), 5);
    C.same("deed(0, 1)", Check.told("d59;").deed(0, 1), 9);
    C.same("deed(0, 0)", Check.told("d00;").deed(0, 0), 0);
    C.says("\"p\" RECORD (a digit), COULD (3 digits), DID (a digit): one more, last in ORDER");
    AccusedChoose x = Check.told("p91277;p00000;p51026;p00101;p00010;");
    int[][] due = {{9, 127, 7}, {0, 0, 0}, {5, 102, 6}, {0, 10, 1}, {0, 1, 0}};
    for (int person = 0; person < due.length; person++) {
      for (int what = 0; what < 3; what++) {
        C.same("person(" + person + ", " + what + ")", x.person(person, what), due[person][what]);
      }
    }
    C.same("p01277;p01007;", Check.told("p01277;p01007;").person(1, 1), 100);
  }

  private static void whereTheFormBreaks() {
    C.says("kind 1 the place of the first letter with which no NIGHT can go on "
        + "(the end, if something lacks): -1000 less the place");
    for (String one : new String[] {"d00;", "p00000;", "b01;", "a00;", "x01;"}) {
      for (int i = 0; i < one.length(); i++) {
        boolean digit = one.charAt(i) >= '0' && one.charAt(i) <= '9';
        String odd = i == 0 ? "0;DPBAX cqwyABe/:" : digit ? ";/: dpbax-+" : "0123456789:d<,";
        for (int k = 0; k < odd.length(); k++) {
          String broken = one.substring(0, i) + odd.charAt(k) + one.substring(i + 1);
          told(broken, -1000 - i);
          told("d00;p00000;p00000;", "d11;" + broken + "?", -1004 - i);
        }
        told(one.substring(0, i) + (char) 0 + one.substring(i + 1), -1000 - i);
        told(one.substring(0, i) + (char) 255, -1000 - i);
      }
    }
    told("d00;;d00;", -1004);
    told("d00;d000", -1007);
    told("p000000;", -1006);
    told("d0;", -1002);
    told("p0000;", -1005);
    told("dd00;", -1001);
    told(" d00;", -1000);
  }

  private static void whereSomethingLacks() {
    C.says("(the end, if something lacks)");
    for (String one : new String[] {"d00;", "p00000;", "b01;", "a00;", "x01;"}) {
      for (int length = 1; length < one.length(); length++) {
        told(one.substring(0, length), -1000 - length);
        told("d00;p00000;p00000;", "d11;d22;" + one.substring(0, length), -1008 - length);
      }
    }
    C.says("else kind 2 the place of the first letter of the first STATEMENT that, "
        + "behind all ahead of it in the text, is not as it must be");
    told("d60;d", -1005);
    told("d60;d00", -1007);
    told("b00;x00;?", -1008);
    told("d60;", -2000);
  }

  private static void rangesOfStatements() {
    C.says("(a number out of range, no such one, DEED, one twice, no room): -2000 less the place");
    for (int kind = 0; kind <= 9; kind++) {
      told("d" + kind + "9;", kind <= 5 ? 1 : -2000);
      told("d00;", "d00;d" + kind + "0;d00;", kind <= 5 ? 3 : -2004);
    }
    for (int did = 0; did <= 9; did++) {
      told("p9127" + did + ";", did <= 7 ? 1 : -2000);
    }
    told("p01277;", 1);
    for (String could : new String[] {"128", "129", "130", "200", "227", "999"}) {
      told("p0" + could + "0;", -2000);
      told("d00;p0" + could + "0;", -2004);
    }
    told("p01288;", -2000);
  }

  private static void noSuchOne() {
    String night = "d00;p00000;p00000;";
    told(night, "b01;", 1);
    told(night, "b10;", 1);
    told(night, "x01;", 1);
    told(night, "a00;", 1);
    told(night, "a10;", 1);
    for (String one : new String[] {"b", "x"}) {
      told(night, one + "02;", -2000);
      told(night, one + "20;", -2000);
      told(night, one + "29;", -2000);
      told(night, one + "90;", -2000);
      told(night, one + "00;", -2000);
      told(night, one + "11;", -2000);
      told("", one + "01;", -2000);
      told("p00000;", one + "01;", -2000);
      told("p00000;", one + "00;", -2000);
      told("d00;d00;", one + "01;", -2000);
    }
    told(night, "a01;", -2000);
    told(night, "a20;", -2000);
    told(night, "a11;", -2000);
    told(night, "a99;", -2000);
    told("d00;", "a00;", -2000);
    told("p00000;", "a00;", -2000);
    told("d00;d00;p00000;", "a10;", -2000);
    told("d00;p00000;p00000;", "a01;", -2000);
    told(SEVEN_DEEDS + SEVEN_PEOPLE, "a66;b65;x56;", 3);
    told(SEVEN_DEEDS + SEVEN_PEOPLE, "a66;a67;", -2004);
    told(SEVEN_DEEDS + SEVEN_PEOPLE, "a66;a76;", -2004);
    told(SEVEN_DEEDS + SEVEN_PEOPLE, "b67;", -2000);
    told(SEVEN_DEEDS + SEVEN_PEOPLE, "x76;", -2000);
    told(SEVEN_DEEDS + SEVEN_PEOPLE, "x66;", -2000);
  }

  private static void noRoom() {
    told("d00;".repeat(7), 7);
    told("d00;".repeat(8), -2028);
    told("p00000;".repeat(7), 7);
    told("p00000;".repeat(8), -2049);
    told("d00;".repeat(6), "d00;d00;", -2004);
    told("p00000;".repeat(6), "p00000;p00000;", -2007);
    told(SEVEN_DEEDS, "p00000;d00;", -2007);
    told(SEVEN_PEOPLE, "d00;p00000;", -2004);
    told(SEVEN_DEEDS, "p00000;", 1);
    told(SEVEN_PEOPLE, "d00;", 1);
  }

  private static void behindAllAhead() {
    C.says("the first letter of the first STATEMENT that, behind all ahead of it in the text");
    told("d00;p00000;a00;", 3);
    told("a00;d00;p00000;", -2000);
    told("d00;a00;p00000;", -2004);
    told("p00000;a00;d00;", -2007);
    told("p00000;p00000;b01;", 3);
    told("p00000;b01;p00000;", -2007);
    told("p00000;x01;p00000;", -2007);
    told("d60;d70;d00;d80;", -2000);
    told("d00;d70;d60;", -2004);
    told("d00;x00;d60;", -2004);
  }

  private static void allOrNothing() {
    C.says("Without FAULT all of it comes, with one nothing.");
    String night = "d00;p00000;p00000;p00000;b01;";
    for (String text : new String[] {
        "d11;d60;", "p51277;p00008;", "b12;b00;", "a00;a01;", "x01;x03;", "x01;b02;a10;d00;p00000;d6",
        "x01;b02;a10;d00;p00000;d60;", "x01;b02;a10;d00;p00000;?"}) {
      AccusedChoose x = fed(night, text);
      C.same("night() of " + text + " has a fault", x.night() < -999 ? 1 : 0, 1);
      C.sameText("night() of " + text, Trace.spend(x), Trace.spend(Check.told(night)));
    }
    AccusedChoose x = fed(night, "x01;b02;a10;d29;p51016;");
    C.same("night()", x.night(), 5);
    C.same("person(0, 4)", x.person(0, 4), 1);
    C.same("person(0, 3)", x.person(0, 3), 2);
    C.same("person(1, 3)", x.person(1, 3), -9);
    C.same("person(1, 5)", x.person(1, 5), 1);
    C.same("deed(1, 1)", x.deed(1, 1), 9);
    C.same("person(3, 1)", x.person(3, 1), 101);
    C.says("The letters, which are no more then (with a FAULT neither), are a NIGHT");
    AccusedChoose y = fed("", "d00");
    C.same("night() that lacks its end", y.night(), -1003);
    C.same("feed behind it", y.feed('d'), 1);
    Check.feedAll(y, "11;");
    C.same("night() of what came behind it", y.night(), 1);
    C.same("deed(0, 0)", y.deed(0, 0), 1);
    C.same("night() once more", y.night(), -1000);
  }

  private static void lastInOrder() {
    C.says("one more, last in ORDER");
    AccusedChoose x = Check.told("p00000;p00000;x01;p00000;x02;p00000;");
    // 1, 0 and 2, then 1, 2, 0 and 3.
    int[] places = {2, 0, 1, 3};
    for (int person = 0; person < 4; person++) {
      C.same("person(" + person + ", 4)", x.person(person, 4), places[person]);
    }
    x.addPerson(0, 0, 0);
    C.same("person(4, 4)", x.person(4, 4), 4);
  }

  private static void brothersInLetters() {
    C.says("\"b\" two PEOPLE (a digit each) are BROTHERS (who was theirs is none's then)");
    AccusedChoose x = Check.told("p00000;p00000;p00000;p00000;b01;b23;b12;");
    int[] due = {-9, 2, 1, -9};
    for (int person = 0; person < 4; person++) {
      C.same("person(" + person + ", 3)", x.person(person, 3), due[person]);
    }
    AccusedChoose again = Check.told("p00000;p00000;b01;b10;b01;");
    C.same("person(0, 3): told again, they still are", again.person(0, 3), 1);
    C.same("person(1, 3): told again, they still are", again.person(1, 3), 0);
  }

  private static void alibisInLetters() {
    C.says("\"a\" one, a DEED (a digit each): an ALIBI, or, told again, none");
    C.same("once", Check.told("d00;p00000;a00;").person(0, 5), 1);
    C.same("twice", Check.told("d00;p00000;a00;a00;").person(0, 5), 0);
    C.same("thrice", Check.told("d00;p00000;a00;a00;a00;").person(0, 5), 1);
    AccusedChoose x = fed("d00;p00000;a00;", "a00;");
    C.same("night()", x.night(), 1);
    C.same("in another night", x.person(0, 5), 0);
    AccusedChoose two = Check.told("d00;d00;p00000;p00000;a01;a10;");
    C.same("the first digit is the one", two.person(0, 5), 2);
    C.same("the second digit is the DEED", two.person(1, 5), 1);
  }

  private static void changesInLetters() {
    C.says("\"x\" two PEOPLE (a digit each) change places in ORDER");
    AccusedChoose x = Check.told("p00000;p00000;p00000;x02;x01;");
    int[] places = {1, 2, 0};
    for (int person = 0; person < 3; person++) {
      C.same("person(" + person + ", 4)", x.person(person, 4), places[person]);
    }
    C.same("twice", Check.told("p00000;p00000;x01;x10;").person(0, 4), 0);
  }

  // ---- what is TAKEN BACK

  private static void eachThatIsNotRefused() {
    C.promise(12);
    C.says("(each that is not refused counts, also if all stays as it was)");
    AccusedChoose x = Check.told("d00;p00000;p00000;p00000;b01;");
    x.brothers(0, 1);
    C.same("count(6) behind brothers who are", x.count(6), 1);
    x.brothers(1, 0);
    C.same("count(6) behind brothers who are", x.count(6), 2);
    x.brothers(0, 0);
    x.brothers(0, 3);
    x.change(1, 1);
    x.change(3, 0);
    x.alibi(0, 1);
    x.alibi(3, 0);
    C.same("count(6) behind those refused", x.count(6), 2);
    x.change(0, 1);
    x.change(0, 1);
    C.same("count(6) behind change twice", x.count(6), 4);
    x.alibi(0, 0);
    x.alibi(0, 0);
    C.same("count(6) behind alibi twice", x.count(6), 6);
    for (int left = 5; left >= 0; left--) {
      C.same("back()", x.back(), left);
    }
    C.same("person(0, 3)", x.person(0, 3), 1);
    C.same("person(1, 3)", x.person(1, 3), 0);
    C.same("person(0, 4)", x.person(0, 4), 0);
    C.same("person(0, 5)", x.person(0, 5), 0);
  }

  private static void latestFirst() {
    C.says("the latest first");
    AccusedChoose x = Check.told("d00;p00000;p00000;p00000;p00000;b01;b23;");
    x.change(0, 1);
    x.change(0, 2);
    C.same("person(0, 4)", x.person(0, 4), 2);
    C.same("back()", x.back(), 1);
    C.same("person(0, 4)", x.person(0, 4), 1);
    C.same("person(2, 4)", x.person(2, 4), 2);
    C.same("back()", x.back(), 0);
    C.same("person(0, 4)", x.person(0, 4), 0);
    // Both lose a BROTHER, and both get theirs back.
    x.brothers(1, 2);
    x.brothers(2, 0);
    x.brothers(3, 2);
    int[][] due = {{2, -9, 0, -9}, {-9, 2, 1, -9}, {1, 0, 3, 2}};
    for (int step = 0; step < 3; step++) {
      C.same("back()", x.back(), 2 - step);
      for (int person = 0; person < 4; person++) {
        C.same("person(" + person + ", 3)", x.person(person, 3), due[step][person]);
      }
    }
  }

  private static void eightAtMost() {
    C.says("8 at most (older ones no more");
    for (int changes = 7; changes <= 18; changes++) {
      AccusedChoose x = Check.told(SEVEN_DEEDS + SEVEN_PEOPLE);
      for (int i = 0; i < changes; i++) {
        x.alibi(i / 7, i % 7);
        C.same("count(6) behind " + (i + 1), x.count(6), Math.min(i + 1, 8));
      }
      int left = Math.min(changes, 8);
      while (left > 0) {
        left--;
        C.same("back() of " + changes, x.back(), left);
      }
      C.same("back() of " + changes + ": none", x.back(), -3);
      C.same("count(3): the older ones stay", x.count(3), Math.max(0, changes - 8));
      C.same("person(0, 5): the older ones stay", x.person(0, 5), 127 & (1 << Math.max(0, changes - 8)) - 1);
    }
    AccusedChoose x = Check.told("p00000;p00000;p00000;");
    x.brothers(0, 1);
    for (int i = 0; i < 9; i++) {
      x.change(0, 2);
    }
    for (int i = 7; i >= 0; i--) {
      C.same("back()", x.back(), i);
    }
    C.same("person(0, 4): one change is too old", x.person(0, 4), 2);
    C.same("person(0, 3): the brothers are too old", x.person(0, 3), 1);
    x.change(0, 1);
    C.same("count(6): from one on again", x.count(6), 1);
    C.same("back()", x.back(), 0);
  }

  /** Twelve changes of all three sorts, and nights behind the first of them. */
  private static AccusedChoose changed(int howMany) {
    AccusedChoose x = Check.told("d00;d00;p01277;p01277;p01277;p01277;p01277;b01;b23;");
    for (int i = 0; i < howMany; i++) {
      switch (i) {
        case 0: x.brothers(0, 2); break;
        case 1: x.change(4, 0); break;
        case 2: x.alibi(3, 1); break;
        case 3: x.brothers(1, 3); break;
        case 4: x.brothers(3, 0); break;
        case 5: x.change(2, 4); break;
        case 6: x.brothers(4, 3); break;
        case 7: x.brothers(2, 1); break;
        case 8: x.alibi(3, 1); break;
        case 9: x.brothers(1, 4); break;
        case 10: x.alibi(0, 0); break;
        default: x.change(1, 3); break;
      }
    }
    return x;
  }

  private static String people(AccusedChoose x) {
    StringBuilder s = new StringBuilder();
    for (int person = 0; person < x.count(0); person++) {
      s.append(x.person(person, 3)).append(' ').append(x.person(person, 4)).append(' ');
      s.append(x.person(person, 5)).append(' ').append(x.person(person, 6)).append(' ');
    }
    return s.toString();
  }

  private static void olderOnesStay() {
    for (int changes = 0; changes <= 12; changes++) {
      AccusedChoose x = changed(changes);
      int left = changes;
      while (x.count(6) > 0) {
        x.back();
        left--;
        C.sameText(changes + " changes, taken back to " + left, people(x), people(changed(left)));
      }
      C.same("how many stay of " + changes, left, Math.max(0, changes - 8));
    }
  }

  private static AccusedChoose changedOnce() {
    AccusedChoose x = Check.told("d00;p00000;p00000;");
    x.image();
    x.change(0, 1);
    return x;
  }

  private static void leavesNone() {
    C.says("all else that changes anything of I leaves none");
    AccusedChoose deed = changedOnce();
    deed.addDeed(0, 0);
    C.same("count(6) behind addDeed", deed.count(6), 0);
    C.same("back() behind addDeed", deed.back(), -3);
    AccusedChoose person = changedOnce();
    person.addPerson(0, 0, 0);
    C.same("count(6) behind addPerson", person.count(6), 0);
    AccusedChoose restored = changedOnce();
    restored.restore();
    C.same("count(6) behind restore", restored.count(6), 0);
    for (String text : new String[] {"d00;", "p00000;", "b01;", "a00;", "x01;"}) {
      AccusedChoose told = changedOnce();
      Check.feedAll(told, text);
      C.same("count(6) behind letters", told.count(6), 1);
      C.same("night() of " + text, told.night(), 1);
      C.same("count(6) behind night() of " + text, told.count(6), 0);
      C.same("back() behind night() of " + text, told.back(), -3);
    }
    AccusedChoose x = changedOnce();
    Check.feedAll(x, "d60;");
    x.night();
    x.night();
    x.row(0);
    x.judge();
    x.row(1);
    x.clear();
    x.image();
    x.addDeed(6, 0);
    x.addDeed(0, 10);
    x.addPerson(0, 128, 0);
    x.lots(20, 1, 0);
    x.putIn(9, 1);
    x.newBrothers();
    C.same("count(6) behind what changes nothing of I", x.count(6), 1);
    C.same("back()", x.back(), 0);
    C.same("person(0, 4)", x.person(0, 4), 0);
  }
}
