/** Many runs of calls by lot: the class must answer as the model does. */
public final class ModelTest {
  private static final int RUNS = 1200;
  private static final int CALLS = 512;
  private static final Check CHECK = new Check("ModelTest");
  private static long seed = 20261118;

  private static AccusedChoose x;
  private static Model m;
  private static String run;

  public static void main(String[] args) {
    for (int i = 0; i < RUNS; i++) {
      x = new AccusedChoose();
      m = new Model();
      run = "run " + i + ": ";
      int people = draw(8);
      int deeds = draw(8);
      int style = draw(5);
      for (int call = 0; call < CALLS; call++) {
        if (call < 16) {
          settle(call, people, deeds, style);
        } else if (call % 64 == 0) {
          compareState();
        } else if (draw(4) == 0) {
          changeSomething(style);
        } else {
          ask(draw(38));
        }
      }
      compareState();
    }
    CHECK.end();
  }

  private static int draw(int n) {
    seed = seed * 6364136223846793005L + 1442695040888963407L;
    return (int) ((seed >>> 33) % n);
  }

  private static void same(String call, long got, long due) {
    CHECK.same(run + call, got, due);
  }

  /** Mostly a number from 0 to below n, now and then one around the edges. */
  private static int near(int n) {
    if (draw(12) == 0) {
      int[] edges = {-1, -2, n, n + 1, 7, 9, -9, Integer.MIN_VALUE, Integer.MAX_VALUE};
      return edges[draw(edges.length)];
    }
    return draw(Math.max(1, n));
  }

  private static int could(int style) {
    switch (style) {
      case 0: return draw(128);
      case 1: return draw(128) | draw(128);
      case 2: return 127;
      case 3: return draw(128) & draw(128);
      default: return draw(2) == 0 ? 127 : 1 << draw(7);
    }
  }

  private static void settle(int call, int people, int deeds, int style) {
    if (call % 2 == 0 ? call / 2 < deeds : call / 2 >= people) {
      int kind = style == 4 ? 3 : near(6);
      int figure = style == 4 ? 6 + draw(4) : draw(3) == 0 ? draw(10) : draw(4);
      if (call / 2 < deeds) {
        same("addDeed(" + kind + ", " + figure + ")", x.addDeed(kind, figure), m.addDeed(kind, figure));
      }
    } else if (call / 2 < people) {
      int record = near(10);
      int bits = could(style);
      int did = near(8);
      same("addPerson(" + record + ", " + bits + ", " + did + ")",
          x.addPerson(record, bits, did), m.addPerson(record, bits, did));
    }
  }

  private static void changeSomething(int style) {
    int a = near(m.people());
    int b = near(m.people());
    int d = near(m.deeds());
    switch (draw(12)) {
      case 0: case 1:
        same("change(" + a + ", " + b + ")", x.change(a, b), m.change(a, b));
        break;
      case 2: case 3:
        same("alibi(" + a + ", " + d + ")", x.alibi(a, d), m.alibi(a, d));
        break;
      case 4: case 5:
        same("brothers(" + a + ", " + b + ")", x.brothers(a, b), m.brothers(a, b));
        break;
      case 6: case 7:
        same("back()", x.back(), m.back());
        break;
      case 8:
        tellLetters(style);
        break;
      case 9:
        if (draw(3) == 0) {
          same("image()", x.image(), m.image());
        } else if (draw(3) == 0) {
          same("restore()", x.restore(), m.restore());
        }
        break;
      case 10:
        tellRow();
        break;
      default:
        addOne(style);
        break;
    }
  }

  private static void addOne(int style) {
    if (draw(6) != 0) {
      return;
    }
    if (draw(2) == 0) {
      int kind = near(6);
      int figure = near(10);
      same("addDeed(" + kind + ", " + figure + ")", x.addDeed(kind, figure), m.addDeed(kind, figure));
    } else {
      int record = near(10);
      int bits = draw(8) == 0 ? near(128) : could(style);
      int did = near(8);
      same("addPerson(" + record + ", " + bits + ", " + did + ")",
          x.addPerson(record, bits, did), m.addPerson(record, bits, did));
    }
  }

  private static void tellLetters(int style) {
    String letters = "dpbax;0123456789";
    int statements = draw(5);
    for (int i = 0; i < statements; i++) {
      StringBuilder one = new StringBuilder();
      int sort = draw(40);
      if (sort == 0) {
        one.append('d').append(draw(7)).append(draw(10)).append(';');
      } else if (sort == 1) {
        int bits = draw(4) == 0 ? draw(200) : could(style);
        one.append('p').append(draw(10)).append(bits / 100).append(bits / 10 % 10).append(bits % 10);
        one.append(draw(9)).append(';');
      } else {
        one.append("bax".charAt(draw(3))).append(draw(Math.max(1, m.people())));
        one.append(draw(Math.max(2, Math.max(m.people(), m.deeds())))).append(';');
      }
      if (draw(25) == 0) {
        one.setCharAt(draw(one.length()), letters.charAt(draw(letters.length())));
      }
      if (draw(30) == 0) {
        one.setLength(draw(one.length()));
      }
      for (int k = 0; k < one.length(); k++) {
        same("feed(" + one.charAt(k) + ")", x.feed(one.charAt(k)), m.feed(one.charAt(k)));
      }
    }
    if (draw(20) == 0) {
      int odd = near(256);
      same("feed(" + odd + ")", x.feed(odd), m.feed(odd));
    }
    if (draw(12) != 0) {
      same("night()", x.night(), m.night());
    }
  }

  private static void tellRow() {
    if (draw(5) == 0) {
      same("clear()", x.clear(), m.clear());
    }
    int numbers = draw(m.people() + 2);
    boolean right = draw(2) == 0;
    for (int i = 0; i < numbers; i++) {
      int taken = i < m.people() && right ? m.takes(i, 0) : near(10);
      int v = taken == Model.NONE && right ? 9 : taken;
      same("row(" + v + ")", x.row(v), m.row(v));
    }
  }

  private static void compareState() {
    for (int p = 0; p < m.people(); p++) {
      for (int what = 0; what < 7; what++) {
        same("person(" + p + ", " + what + ")", x.person(p, what), m.person(p, what));
      }
      for (int d = 0; d < m.deeds(); d++) {
        same("months(" + p + ", " + d + ")", x.months(p, d), m.months(p, d));
      }
    }
    for (int what = -1; what < 18; what++) {
      same("count(" + what + ")", x.count(what), m.count(what));
    }
  }

  private static void ask(int which) {
    int p = near(m.people());
    int d = near(m.deeds());
    int what = near(2);
    int what3 = near(3);
    int i = near(m.people());
    // The model tries all choosings one by one: with seven people it is asked more seldom.
    boolean dear = m.people() >= 6 && m.deeds() >= 6 && draw(8) != 0;
    switch (which) {
      case 0: same("takes(" + p + ", " + what + ")", x.takes(p, what), m.takes(p, what)); break;
      case 1: same("morning(" + what3 + ")", x.morning(what3), m.morning(what3)); break;
      case 2:
        if (!dear) {
          same("least(" + (p - 1) + ")", x.least(p - 1), m.least(p - 1));
        }
        break;
      case 3:
        if (!dear) {
          same("fromLast(" + p + ", " + what + ")", x.fromLast(p, what), m.fromLast(p, what));
        }
        break;
      case 4:
        if (!dear) {
          same("allFromLast()", x.allFromLast(), m.allFromLast());
        }
        break;
      case 5: same("whose(" + p + ", " + d + ")", x.whose(p, d), m.whose(p, d)); break;
      case 6: same("whose(-1, -1)", x.whose(-1, -1), m.whose(-1, -1)); break;
      case 7: askRule(what); break;
      case 8: same("bestRule()", x.bestRule(), m.bestRule()); break;
      case 9: same("placeWorth(" + p + ")", x.placeWorth(p), m.placeWorth(p)); break;
      case 10: same("changes()", x.changes(), m.changes()); break;
      case 11: same("bestOrder(" + (i - 1) + ")", x.bestOrder(i - 1), m.bestOrder(i - 1)); break;
      case 12: askPutIn(what); break;
      case 13: askTogether(what, dear); break;
      case 14: same("alibiWorth(" + p + ", " + d + ")", x.alibiWorth(p, d), m.alibiWorth(p, d)); break;
      case 15: same("givenAway()", x.givenAway(), m.givenAway()); break;
      case 16: askCaught(what); break;
      case 17: same("spared()", x.spared(), m.spared()); break;
      case 18: same("keeper()", x.keeper(), m.keeper()); break;
      default: askMore(which, p, d, what, what3, i, dear); break;
    }
  }

  private static void askMore(int which, int p, int d, int what, int what3, int i, boolean dear) {
    switch (which) {
      case 19:
        if (!dear) {
          same("swaps(" + what + ")", x.swaps(what), m.swaps(what));
        }
        break;
      case 20: same("heavier(" + p + ", " + d + ")", x.heavier(p, d), m.heavier(p, d)); break;
      case 21: same("bestDid(" + p + ")", x.bestDid(p), m.bestDid(p)); break;
      case 22: same("rest(" + what3 + ")", x.rest(what3), m.rest(what3)); break;
      case 23: same("even(" + (i - 1) + ")", x.even(i - 1), m.even(i - 1)); break;
      case 24: same("lastWord(" + p + ")", x.lastWord(p), m.lastWord(p)); break;
      case 25: same("bribe(" + what + ")", x.bribe(what), m.bribe(what)); break;
      case 26: same("latest(" + p + ", " + what + ")", x.latest(p, what), m.latest(p, what)); break;
      case 27: same("truth(" + what + ")", x.truth(what), m.truth(what)); break;
      case 28: same("parole()", x.parole(), m.parole()); break;
      case 29:
        if (!dear || draw(20) == 0) {
          same("newBrothers()", x.newBrothers(), m.newBrothers());
        }
        break;
      case 30: same("madeLight()", x.madeLight(), m.madeLight()); break;
      case 31: same("always()", x.always(), m.always()); break;
      case 32: same("judge()", x.judge(), m.judge()); break;
      case 33: same("fits(" + (i - 1) + ")", x.fits(i - 1), m.fits(i - 1)); break;
      case 34: askLots(what); break;
      case 35: same("deed(" + d + ", " + what + ")", x.deed(d, what), m.deed(d, what)); break;
      case 36: askPerson(p); break;
      default: same("months(" + p + ", " + d + ")", x.months(p, d), m.months(p, d)); break;
    }
  }

  private static void askPerson(int p) {
    int what = near(7);
    same("person(" + p + ", " + what + ")", x.person(p, what), m.person(p, what));
  }

  private static void askRule(int what) {
    int rule = near(5);
    same("rule(" + rule + ", " + what + ")", x.rule(rule, what), m.rule(rule, what));
  }

  private static void askPutIn(int what) {
    int figure = near(10);
    same("putIn(" + figure + ", " + what + ")", x.putIn(figure, what), m.putIn(figure, what));
  }

  private static void askTogether(int what, boolean dear) {
    int set = near(1 << m.people());
    if (!dear) {
      same("together(" + set + ", " + what + ")", x.together(set, what), m.together(set, what));
    }
  }

  private static void askCaught(int what) {
    int t = near(21);
    int k = near(8);
    same("caught(" + t + ", " + k + ", " + what + ")", x.caught(t, k, what), m.caught(t, k, what));
  }

  private static void askLots(int what) {
    int n = near(21);
    int z = draw(2) == 0 ? draw(1000) : (int) seed;
    same("lots(" + n + ", " + z + ", " + what + ")", x.lots(n, z, what), m.lots(n, z, what));
  }
}
