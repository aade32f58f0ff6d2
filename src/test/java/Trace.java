/** All that can be seen of an object, as a text, so that two objects can be compared. */
final class Trace {
  private Trace() {
  }

  /** All but the REFUSALS. The object is spent by it: it is asked and changed until all is told. */
  static String spend(AccusedChoose x) {
    StringBuilder s = new StringBuilder();
    for (int what = 0; what <= 6; what++) {
      s.append(x.count(what)).append(' ');
    }
    state(x, s);
    s.append("| row ").append(x.judge());
    int toTakeBack = x.count(6);
    for (int i = 0; i <= toTakeBack; i++) {
      s.append("| back ").append(x.back());
      state(x, s);
    }
    // The letters of busy() are a statement that lacks its end.
    s.append("| letter ").append(x.feed(';')).append(" night ").append(x.night());
    state(x, s);
    s.append("| restore ").append(x.restore());
    state(x, s);
    return s.toString();
  }

  private static void state(AccusedChoose x, StringBuilder s) {
    s.append(": ");
    for (int deed = 0; deed < x.count(1); deed++) {
      s.append('d').append(x.deed(deed, 0)).append(x.deed(deed, 1)).append(' ');
    }
    for (int person = 0; person < x.count(0); person++) {
      s.append('p');
      for (int what = 0; what <= 6; what++) {
        s.append(x.person(person, what)).append(',');
      }
      s.append(' ');
    }
  }
}
