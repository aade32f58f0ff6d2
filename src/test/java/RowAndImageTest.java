/** Promises 44 to 51: the ROW, orders that fit, lots, the image, what is counted. */
public final class RowAndImageTest {
  private static final Check C = new Check("RowAndImageTest");
  // 0 may own to 0 (1 month) and 1 (9 months), 1 only to 0.
  private static final String TWO = "d00;d04;p00037;p00017;";

  public static void main(String[] args) {
    rows();
    judged();
    fitting();
    cleared();
    lots();
    images();
    counts();
    C.end();
  }

  private static AccusedChoose withRow(String night, int... numbers) {
    AccusedChoose x = Check.told(night);
    for (int v : numbers) {
      x.row(v);
    }
    return x;
  }

  private static void rows() {
    C.promise(44);
    AccusedChoose x = new AccusedChoose();
    for (int i = 1; i <= 12; i++) {
      C.same("row", x.row(i % 2 * 9), i);
    }
    C.same("row(0) with 12", x.row(0), -6);
    C.same("row(-1) with 12", x.row(-1), -4);
    C.same("count(5)", x.count(5), 12);
  }

  private static void judge(int due, int... numbers) {
    AccusedChoose x = withRow(TWO, numbers);
    C.same("judge()", x.judge(), due);
    C.same("count(5) behind it", x.count(5), 0);
  }

  private static void judged() {
    C.promise(45);
    judge(-9);
    judge(-9, 0);
    judge(-9, 0, 9);
    judge(0, 1, 9);
    judge(0, 9, 9);
    judge(1, 0, 0);
    judge(2, 0, 9, 9);
    judge(2, 0, 9, 0, 0);
    judge(0, 5);
    C.same("judge() of nobody", withRow("", 9).judge(), 0);
  }

  private static void fitting() {
    C.promise(46);
    AccusedChoose x = withRow(TWO, 0, 9);
    C.same("fits(-1)", x.fits(-1), 1);
    C.same("fits(0)", x.fits(0), 0);
    C.same("fits(1)", x.fits(1), 1);
    C.same("fits(2)", x.fits(2), -9);
    C.same("count(5): the ROW stays", x.count(5), 2);
    AccusedChoose y = withRow(TWO, 1, 0);
    C.same("fits(-1)", y.fits(-1), 1);
    C.same("fits(0)", y.fits(0), 1);
    AccusedChoose none = withRow(TWO, 5);
    C.same("fits(-1): none", none.fits(-1), 0);
    C.same("fits(0): none", none.fits(0), -9);
    C.same("fits(-1): no such one", withRow(TWO, 0, 9, 9).fits(-1), 0);
    C.same("fits(-1): no ROW", Check.told("p00007;p00007;p00007;p00007;p00007;").fits(-1), 120);
    AccusedChoose three = withRow("d00;p00017;p00017;p00017;", 9, 0);
    C.same("fits(-1): 1 is the first", three.fits(-1), 2);
    C.same("fits(0): the first such", three.fits(0), 1);
    C.same("fits(1): the first such", three.fits(1), 0);
    C.same("fits(2): the first such", three.fits(2), 2);
    C.same("fits(-1) of nobody", new AccusedChoose().fits(-1), 1);
    C.same("fits(0) of nobody", new AccusedChoose().fits(0), -9);
  }

  private static void cleared() {
    C.promise(47);
    AccusedChoose x = withRow(TWO, 1, 2, 3);
    C.same("clear()", x.clear(), 3);
    C.same("count(5)", x.count(5), 0);
    C.same("clear()", x.clear(), 0);
    C.same("judge()", x.judge(), -9);
    C.same("row(0)", x.row(0), 1);
  }

  private static void lot(String night, int n, int all, int full) {
    AccusedChoose x = Check.told(night);
    C.same("lots(" + n + ", 1, 0)", x.lots(n, 1, 0), all);
    C.same("lots(" + n + ", 1, 1)", x.lots(n, 1, 1), full);
  }

  private static void lots() {
    C.promise(48);
    // With the seed 1 the draws below 128 are 70, 126, 1, 107, 75.
    lot("d00;p00007;", 1, 60, 0);
    lot("d00;p00007;", 3, 121, 1);
    lot("d00;p00007;", 5, 123, 3);
    lot("d00;p00007;p00007;", 2, 181, 0);
    lot("d00;d00;p00007;p00007;", 2, 63, 1);
    lot("", 20, 0, 20);
    C.same("lots(3, 1, 0) by calls", Check.made("d00;p00007;").lots(3, 1, 0), 121);
    AccusedChoose x = Check.told("d00;p01277;p00007;");
    x.lots(20, -5, 0);
    C.same("person(0, 1): COULD stays", x.person(0, 1), 127);
    C.same("person(1, 1): COULD stays", x.person(1, 1), 0);
    // A FORGERY, and no ALIBI for it: whatever is drawn.
    C.same("lots(20, -5, 1)", Check.told("d50;p00007;").lots(20, -5, 1), 20);
    C.same("lots(20, least, 1)", Check.told("d50;p00007;a00;").lots(20, Integer.MIN_VALUE, 1), 0);
  }

  private static void images() {
    C.promise(49);
    AccusedChoose x = Check.told(TWO + "b01;x01;a00;");
    C.same("image()", x.image(), 2);
    C.same("image() of nobody", new AccusedChoose().image(), 0);
    C.promise(50);
    x.addPerson(3, 5, 1);
    x.addDeed(3, 9);
    x.brothers(0, 2);
    x.change(0, 2);
    x.alibi(1, 0);
    x.feed('d');
    x.row(4);
    x.back();
    x.person(9, 0);
    int refused = x.count(11);
    C.same("restore()", x.restore(), 2);
    C.same("count(0)", x.count(0), 2);
    C.same("count(1)", x.count(1), 2);
    C.same("count(3)", x.count(3), 1);
    C.same("count(4): letters stay", x.count(4), 1);
    C.same("count(5): the ROW stays", x.count(5), 1);
    C.same("count(6): none can be taken back", x.count(6), 0);
    C.same("count(11): refusals stay", x.count(11), refused);
    C.same("person(0, 3)", x.person(0, 3), 1);
    C.same("person(0, 4)", x.person(0, 4), 1);
    C.same("person(0, 5)", x.person(0, 5), 1);
    C.same("person(1, 5)", x.person(1, 5), 0);
    C.same("deed(1, 1)", x.deed(1, 1), 4);
    x.addPerson(3, 5, 1);
    C.same("restore() again", x.restore(), 2);
    C.same("count(0)", x.count(0), 2);
    x.addPerson(3, 5, 1);
    C.same("image() anew", x.image(), 3);
    C.same("restore()", x.restore(), 3);
  }

  private static void counts() {
    C.promise(51);
    AccusedChoose x = Check.told("d00;d01;d02;p41277;p50016;a00;a02;a11;");
    int[] first = {2, 3, 9, 3, 0, 0, 0};
    for (int what = 0; what < first.length; what++) {
      C.same("count(" + what + ")", x.count(what), first[what]);
    }
    x.feed('x');
    x.row(1);
    x.row(1);
    x.change(0, 1);
    C.same("count(4)", x.count(4), 1);
    C.same("count(5)", x.count(5), 2);
    C.same("count(6)", x.count(6), 1);
    x.person(7, 0);
    x.placeWorth(7);
    x.whose(7, 0);
    x.alibiWorth(0, 7);
    x.deed(0, 7);
    x.restore();
    x.row(-1);
    x.caught(1, 0, 0);
    x.row(10);
    int[] refused = {4, 1, 1, 2, 0, 1};
    for (int i = 0; i < refused.length; i++) {
      C.same("count(" + (11 + i) + ")", x.count(11 + i), refused[i]);
    }
    int[] others = {-1, 7, 8, 9, 10, 17, Integer.MIN_VALUE, Integer.MAX_VALUE};
    for (int what : others) {
      C.same("count(" + what + ")", x.count(what), -9);
    }
    C.same("count(12): no refusal", x.count(12), 1);
  }
}
