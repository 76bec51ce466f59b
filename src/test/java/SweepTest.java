import java.util.ArrayList;
import java.util.Arrays;
import java.util.List;

/**
 * Every call with numbers: each number from below its first to above its last, all of them together,
 * on objects that stand at the edges; compared with Model.
 */
public final class SweepTest {
  private static final Check CHECK = new Check();
  private static final int[] PERSONS = {-4, -1, 0, 1, 2, 3, 4, 5, Integer.MAX_VALUE};
  private static final int[] THINGS = {-4, -2, -1, 0, 1, 2, 3, 4, 5, 6, Integer.MIN_VALUE};
  private static final int[] PARTS = {-1, 0, 1, 2, Integer.MIN_VALUE};
  private static final int[] DRAWS = {Integer.MIN_VALUE, -1, 0, 1, 2, 5, 6, 7, Integer.MAX_VALUE};
  private static final int[] TENTHS = {-1, 0, 1, 2, 5, 9, 10, 11, Integer.MAX_VALUE};
  private static final int STANDS = 9;

  public static void main(String[] args) {
    for (int stand = 0; stand < STANDS; stand++) {
      questions(stand);
      acts(stand);
    }
    CHECK.end();
  }

  private static Calls stand(int which) {
    Calls c = new Calls(CHECK);
    switch (which) {
      case 0:
        return c;
      case 1:
        return c.lay("p0;");
      case 2:
        return c.lay("p2;p9;");
      case 3:
        return c.lay("p0;p0;p0;t0,5;t2,6;");
      case 4:
        return brim(c.lay(Parishes.BRIM_TEXT));
      case 5:
        return midway(c.lay("p3;p1;p5;p2;t0,12;t1,8;t3,10;t3,7;t2,6;t0,3;l0,0,4;l2,3,9;l3,0,20;"));
      case 6:
        return drawn(c.lay("p1;p1;t0,1;"), 1);
      case 7:
        return drawn(c.lay("p9;p9;t1,30;t1,30;t1,30;t2,30;t2,30;t2,30;"), 6);
      default:
        return drawn(c.lay("p1;p0;p2;t3,9;t3,9;t0,4;t2,9;l1,0,30;l2,1,30;l0,3,30;"), 3);
    }
  }

  private static Calls drawn(Calls c, int many) {
    for (int i = 0; i < many; i++) {
      c.make("draw", 0);
    }
    return c;
  }

  private static Calls brim(Calls c) {
    for (int i = 0; i < 8; i++) {
      c.make("note", i % 5);
    }
    for (int i = 0; i < 6; i++) {
      c.make("draw", 8 * (i % 5));
      if (i % 3 == 1) {
        c.make("keep");
      }
    }
    for (int p = 0; p < 5; p++) {
      c.make("buy", p, 1);
      c.make("buy", p, 1);
    }
    return c;
  }

  private static Calls midway(Calls c) {
    c.make("note", 0);
    c.make("draw", 0);
    c.make("draw", 2);
    c.make("keep");
    c.make("swap", 0, 1);
    c.make("draw", 5);
    c.make("draw", 7);
    c.make("refuse");
    c.make("hand", 3, 1);
    c.make("note", 3);
    return c;
  }

  /** All rows of one number of each. */
  private static List<int[]> rows(int[]... numbers) {
    List<int[]> all = new ArrayList<>();
    all.add(new int[0]);
    for (int[] each : numbers) {
      List<int[]> longer = new ArrayList<>();
      for (int[] row : all) {
        for (int n : each) {
          int[] next = Arrays.copyOf(row, row.length + 1);
          next[row.length] = n;
          longer.add(next);
        }
      }
      all = longer;
    }
    return all;
  }

  private static int[] from(int first, int last) {
    int[] all = new int[last - first + 1];
    for (int i = 0; i < all.length; i++) {
      all[i] = first + i;
    }
    return all;
  }

  /** These change nothing, so one object is asked as often as it may be. */
  private static void ask(int stand, String name, int[]... numbers) {
    Calls c = stand(stand);
    for (int[] row : rows(numbers)) {
      if (c.made() >= 511) {
        c = stand(stand);
      }
      c.make(name, row);
    }
  }

  private static void questions(int stand) {
    ask(stand, "fault");
    ask(stand, "person", PERSONS, from(-2, 5));
    ask(stand, "thing", THINGS, from(-2, 6));
    ask(stand, "likes", PERSONS, THINGS);
    ask(stand, "count", from(-5, 12));
    ask(stand, "wins", PERSONS, DRAWS, PARTS);
    ask(stand, "mean", PERSONS, PARTS);
    ask(stand, "needs", PERSONS, DRAWS, TENTHS);
    ask(stand, "swaps");
    ask(stand, "gives");
    ask(stand, "share", THINGS);
    ask(stand, "envy");
    ask(stand, "ring");
    ask(stand, "fair", PERSONS, from(-1, 11), PARTS);
    ask(stand, "seats", from(-2, 10));
    ask(stand, "year", new int[] {-1, 0, 1, 4999, 9998, 9999, 10000}, new int[] {-1, 0, 1, 2, 30, 59, 60, 61}, PARTS);
  }

  /** A new object for each, looked at behind it, and undone. */
  private static void act(int stand, String name, int[]... numbers) {
    for (int[] row : rows(numbers)) {
      Calls c = stand(stand);
      c.make(name, row);
      c.look(5, 6);
      c.make("undo");
      c.look(5, 6);
      c.make("back");
      c.look(5, 6);
    }
  }

  private static void acts(int stand) {
    act(stand, "write", new int[] {-1, 0, 31, 32, 48, 112, 126, 127, 128, 65568});
    act(stand, "wipe");
    act(stand, "lay");
    act(stand, "draw", from(-2, 46));
    act(stand, "refuse");
    act(stand, "buy", PERSONS, from(-1, 11));
    act(stand, "hand", PERSONS, PERSONS);
    act(stand, "swap", THINGS, THINGS);
    act(stand, "give", THINGS, PERSONS);
    act(stand, "undo");
    act(stand, "note", from(-2, 6));
    act(stand, "forget");
    act(stand, "keep");
    act(stand, "back");
  }
}
