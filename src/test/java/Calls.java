import java.lang.reflect.InvocationTargetException;
import java.lang.reflect.Method;
import java.util.Arrays;

/** The same calls, by their names, on an object and on the slow second reading of the document. */
final class Calls {
  private final Check check;
  private final ParishRaffle x = new ParishRaffle();
  private final Model m = new Model();
  private final StringBuilder row = new StringBuilder();
  private int made = 0;

  Calls(Check check) {
    this.check = check;
  }

  int made() {
    return made;
  }

  /** Makes a call, and compares the answers: whether they are alike. */
  boolean make(String name, int... numbers) {
    made++;
    String call = name + Arrays.toString(numbers);
    long got = answer(x, name, numbers);
    long want = answer(m, name, numbers);
    check.due(row + " " + call, got, want);
    if (!name.equals("write")) {
      row.append(' ').append(call);
    }
    return got == want;
  }

  /** Writes a text behind an empty one, and lays it. */
  Calls lay(String text) {
    make("wipe");
    for (int i = 0; i < text.length(); i++) {
      make("write", text.charAt(i));
    }
    make("lay");
    row.append(" of ").append(text);
    return this;
  }

  /** What acts change. */
  void look(int persons, int things) {
    for (int p = 0; p < persons; p++) {
      make("person", p, 0);
      make("person", p, 2);
    }
    for (int t = 0; t < things; t++) {
      make("thing", t, 3);
      make("thing", t, 4);
    }
    make("count", 6);
    make("count", 7);
    make("count", 8);
    make("count", 9);
  }

  private static long answer(Object on, String name, int[] numbers) {
    Class<?>[] kinds = new Class<?>[numbers.length];
    Object[] boxed = new Object[numbers.length];
    for (int i = 0; i < numbers.length; i++) {
      kinds[i] = int.class;
      boxed[i] = numbers[i];
    }
    try {
      Method method = on.getClass().getDeclaredMethod(name, kinds);
      return ((Number) method.invoke(on, boxed)).longValue();
    } catch (NoSuchMethodException | IllegalAccessException | InvocationTargetException e) {
      throw new IllegalStateException(name + Arrays.toString(numbers), e);
    }
  }
}
