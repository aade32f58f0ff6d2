import java.lang.reflect.InvocationTargetException;
import java.lang.reflect.Method;
import java.lang.reflect.Modifier;

/** No call throws, for any arguments in any state that is looked at here. */
public final class SafetyTest {
  private static final Check C = new Check("SafetyTest");
  private static final int[] ODD = {
    Integer.MIN_VALUE, Integer.MIN_VALUE + 1, -65536, -129, -10, -9, -3, -2, -1, 0, 1, 2, 5, 6, 7, 8,
    9, 10, 13, 14, 20, 21, 31, 32, 95, 96, 97, 127, 128, 255, 256, 65536, Integer.MAX_VALUE - 1,
    Integer.MAX_VALUE
  };
  private static final String[] NIGHTS = {
    "", "d00;", "p01277;",
    "d03;d15;d29;d34;d48;d57;p41277;p00632;p90157;p50016;p20127;p61274;b01;b23;a50;x45;",
    "d59;d39;d19;d09;d29;d49;d50;p91270;p01276;p41275;p51274;p61273;",
    "p91270;p01276;p41275;p51274;p61273;p21272;p31271;b05;b14;b23;",
    "d50;d30;d10;d00;d20;d40;d55;p00007;p00007;p00007;p00007;p00007;p00007;p00007;"
  };

  public static void main(String[] args) throws Exception {
    for (String night : NIGHTS) {
      for (Method m : AccusedChoose.class.getDeclaredMethods()) {
        if (Modifier.isPublic(m.getModifiers())) {
          tryAll(night, m);
        }
      }
    }
    C.end();
  }

  private static void tryAll(String night, Method m) throws Exception {
    int parameters = m.getParameterCount();
    int runs = 1;
    for (int i = 0; i < parameters; i++) {
      runs *= ODD.length;
    }
    AccusedChoose x = Check.told(night);
    for (int run = 0; run < runs; run++) {
      if (run % 100 == 0) {
        x = Check.told(night);
        x.image();
      }
      Object[] given = new Object[parameters];
      int rest = run;
      for (int i = 0; i < parameters; i++) {
        given[i] = ODD[rest % ODD.length];
        rest /= ODD.length;
      }
      C.same("calls of " + m.getName() + " that throw", thrown(x, m, given), 0);
    }
  }

  private static int thrown(AccusedChoose x, Method m, Object[] given) throws Exception {
    try {
      m.invoke(x, given);
      return 0;
    } catch (InvocationTargetException e) {
      System.out.println(m.getName() + java.util.Arrays.toString(given) + " threw " + e.getCause());
      return 1;
    }
  }
}
