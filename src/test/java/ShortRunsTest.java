/** All short runs of acts in small parishes, each act with what can be seen behind it, compared with Model. */
public final class ShortRunsTest {
  private static final int DEPTH = 4;
  private static final Check CHECK = new Check();
  private static final String[] NAMES = {"draw", "draw", "refuse", "buy", "hand", "hand", "swap", "give", "give",
    "undo", "keep", "back"};
  private static final int[][] NUMBERS = {{0}, {1}, {}, {1, 8}, {0, 1}, {1, 0}, {0, 1}, {0, 1}, {1, 0}, {}, {}, {}};

  public static void main(String[] args) {
    // two persons, two things; the hat is empty behind two draws; one may hold too many
    all("p1;p1;t0,3;t3,4;", 2, 2);
    all("p2;p2;t2,3;t3,4;l0,1,2;", 2, 2);
    all("p9;p1;t2,3;t0,4;t0,1;", 2, 3);
    CHECK.end();
  }

  private static void all(String text, int persons, int things) {
    int runs = 1;
    for (int i = 0; i < DEPTH; i++) {
      runs *= NAMES.length;
    }
    for (int run = 0; run < runs; run++) {
      Calls c = new Calls(CHECK).lay(text);
      int left = run;
      for (int i = 0; i < DEPTH; i++) {
        int which = left % NAMES.length;
        left /= NAMES.length;
        c.make(NAMES[which], NUMBERS[which]);
      }
      c.look(persons, things);
      c.make("draw", 0);
      c.look(persons, things);
    }
  }
}
