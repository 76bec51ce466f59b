/** Compares answers with those that are due, prints those that are not, and ends the test. */
final class Check {
  private int made = 0;
  private int wrong = 0;

  void due(String call, long got, long want) {
    made++;
    if (got != want) {
      wrong++;
      if (wrong <= 20) {
        System.out.println(call + " answered " + got + ", due is " + want);
      }
    }
  }

  void end() {
    System.out.println(made + " answers, " + wrong + " of them not as due");
    if (wrong != 0 || made == 0) {
      System.exit(1);
    }
  }

  /** Writes a text behind what is written. */
  static void write(ParishRaffle x, String text) {
    for (int i = 0; i < text.length(); i++) {
      x.write(text.charAt(i));
    }
  }

  /** A new object with a text laid. */
  static ParishRaffle laid(String text) {
    ParishRaffle x = new ParishRaffle();
    write(x, text);
    if (x.lay() < 1) {
      throw new IllegalStateException("not laid: " + text);
    }
    return x;
  }

  /** Draws the things that are next, for these persons one after the other. */
  static void drawFor(ParishRaffle x, int... persons) {
    for (int p : persons) {
      int k = 0;
      for (int q = 0; q < p; q++) {
        k += x.person(q, 0);
      }
      if (x.person(p, 0) < 1 || x.draw(k) != p) {
        throw new IllegalStateException("person " + p + " can not draw");
      }
    }
  }
}
