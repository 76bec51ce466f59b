/** The edges of promises 1 to 5: a new object, write, wipe, fault, lay. */
public final class EdgeTextTest {
  private static final int BAD = ParishRaffle.BAD, NO = ParishRaffle.NO, FULL = ParishRaffle.FULL,
      NONE = ParishRaffle.NONE;
  private static final Edges EDGES = new Edges();

  public static void main(String[] args) {
    newObject();
    objectsAreApart();
    writeEveryLetter();
    writeUpToFull();
    writeRefused();
    wipe();
    wipedLettersAreGone();
    faultOfNumbers();
    faultOfFigures();
    faultOfManyItems();
    faultOfLikesAhead();
    faultOfEachSign();
    faultPlaces();
    faultLeavesAll();
    layRefused();
    layOfFewestAndMost();
    layBeginsAnew();
    layOfLessThenMore();
    EDGES.end();
  }

  // promise 1

  /** A new object is as if the first text had been written, laid and wiped. */
  private static void newObject() {
    EDGES.alike("new", ParishRaffle::new, () -> {
      ParishRaffle x = Check.laid(Parishes.FIRST_TEXT);
      x.wipe();
      return x;
    });
    EDGES.due("new: wipe()", new ParishRaffle().wipe(), 0);
    EDGES.due("new: forget()", new ParishRaffle().forget(), 0);
    EDGES.due("new: refuse()", new ParishRaffle().refuse(), NO);
  }

  private static void objectsAreApart() {
    EDGES.alike("another one was used", () -> {
      ParishRaffle x = new ParishRaffle();
      Parishes.brim();
      Parishes.midway();
      return x;
    }, ParishRaffle::new);
  }

  // promise 2

  private static void writeEveryLetter() {
    for (int letter = -300; letter <= 600; letter++) {
      ParishRaffle x = new ParishRaffle();
      boolean is = letter >= 32 && letter <= 126;
      EDGES.due("write(" + letter + ")", x.write(letter), is ? 1 : BAD);
      EDGES.due("count(9) behind it", x.count(9), is ? 1 : 0);
    }
    for (int letter : Edges.FAR) {
      EDGES.due("write(" + letter + ")", new ParishRaffle().write(letter), BAD);
    }
    EDGES.due("write(2 ^ 16 and 'p')", new ParishRaffle().write(65536 + 'p'), BAD);
    EDGES.due("write(2 ^ 8 and 'p')", new ParishRaffle().write(256 + 'p'), BAD);
  }

  private static void writeUpToFull() {
    ParishRaffle x = new ParishRaffle();
    for (int i = 1; i <= 200; i++) {
      EDGES.due("write, the " + i + "-th", x.write(i % 2 == 0 ? 32 : 126), i);
    }
    EDGES.due("write(32), the 201st", x.write(32), FULL);
    EDGES.due("write(126), the 201st", x.write(126), FULL);
    EDGES.due("write(31), BAD and FULL", x.write(31), BAD);
    EDGES.due("write(127), BAD and FULL", x.write(127), BAD);
    EDGES.due("count(9)", x.count(9), 200);
    EDGES.due("wipe()", x.wipe(), 200);
    EDGES.due("write(32), there being room again", x.write(32), 1);
  }

  private static void writeRefused() {
    EDGES.leaves("write('p'), FULL", Parishes::brim, x -> x.write('p'), FULL);
    EDGES.leaves("write(31), BAD and FULL", Parishes::brim, x -> x.write(31), BAD);
    EDGES.leaves("write(127), BAD and FULL", Parishes::brim, x -> x.write(127), BAD);
    EDGES.leaves("write(31)", Parishes::midway, x -> x.write(31), BAD);
    EDGES.leaves("write(127)", Parishes::midway, x -> x.write(127), BAD);
    EDGES.leaves("write(0)", Parishes::first, x -> x.write(0), BAD);
  }

  // promise 3

  private static void wipe() {
    ParishRaffle x = new ParishRaffle();
    EDGES.due("wipe() of nothing", x.wipe(), 0);
    x.write('p');
    EDGES.due("wipe() of one letter", x.wipe(), 1);
    EDGES.due("wipe() again", x.wipe(), 0);
    EDGES.leaves("wipe() of nothing", Parishes::first, ParishRaffle::wipe, 0);
    Check.write(x, Parishes.BRIM_TEXT);
    EDGES.due("wipe() of 200", x.wipe(), 200);
    EDGES.due("fault() of nothing", x.fault(), NONE);
    EDGES.due("lay() of nothing", x.lay(), NO);
    // what is laid, noted, kept and can be undone stays
    EDGES.alike("wiped, and written again", () -> {
      ParishRaffle y = Parishes.midway();
      y.wipe();
      Check.write(y, "p3;p1;p5;p2;t0,12;t1,8;t3,10;t3,7;t2,6;t0,3;l0,0,4;l2,3,9;l3,0,20;x");
      return y;
    }, Parishes::midway);
  }

  private static void wipedLettersAreGone() {
    ParishRaffle x = new ParishRaffle();
    Check.write(x, "p1;p2;t0,1;");
    x.wipe();
    Check.write(x, "p1");
    EDGES.due("fault(), the old ; being gone", x.fault(), 0);
    x.write(';');
    EDGES.due("fault() of the new ;", x.fault(), NONE);
    EDGES.due("lay() of one person", x.lay(), 1);
    EDGES.due("count(1)", x.count(1), 0);
  }

  // promise 4

  private static int faultOf(String text) {
    ParishRaffle x = new ParishRaffle();
    Check.write(x, text);
    return x.fault();
  }

  private static void fault(String text, boolean isSo, int place) {
    EDGES.due("fault() of " + text, faultOf(text), isSo ? NONE : place);
  }

  /** Each number, of one figure and of two, at each place. */
  private static void faultOfNumbers() {
    for (int n = 0; n < 100; n++) {
      String two = "" + n / 10 + n % 10;
      String[] ways = n < 10 ? new String[] {"" + n, two} : new String[] {two};
      for (String s : ways) {
        fault("p" + s + ";", n <= 9, 0);
        fault("p0;t" + s + ",0;", n <= 3, 3);
        fault("p0;t0," + s + ";", n <= 30, 3);
        fault("p0;t0,0;l0,0," + s + ";", n <= 30, 8);
        for (int many = 1; many <= 5; many++) {
          fault("p0;".repeat(many) + "t0,0;l" + s + ",0,1;", n < many, 3 * many + 5);
        }
        for (int many = 1; many <= 6; many++) {
          fault("p0;" + "t0,0;".repeat(many) + "l0," + s + ",1;", n < many, 3 + 5 * many);
        }
      }
    }
  }

  /** No figure, or three of them; too few numbers, or too many. */
  private static void faultOfFigures() {
    String[] faults = {"p;", "p000;", "p001;", "p100;", "t,0;", "t0,;", "t,;", "t000,0;", "t0,000;", "l,0,0;",
      "l0,,0;", "l0,0,;", "l000,0,0;", "l0,000,0;", "l0,0,000;", "p0,0;", "p0,;", "t0;", "t0,0,0;", "t0,0,;",
      "l0;", "l0,0;", "l0,0,0,0;", "l0,0,0,;", "l;", "t;", ";", ",", "0;", "0", "p-0;", "p+0;", "p0 ;", "p 0;",
      " p0;", "p0.;", "p0:;", "p/;", "p:;", "p0/;", "P0;", "T0,0;", "L0,0,0;"};
    for (String s : faults) {
      fault("p0;t0,0;" + s, false, 8);
      fault("p0;t0,0;" + s + "p0;", false, 8);
    }
  }

  private static void faultOfManyItems() {
    for (int many = 0; many <= 12; many++) {
      fault("p1;".repeat(many), many <= 5, 15);
      fault("t1,1;".repeat(many), many <= 6, 30);
      fault("p1;t1,1;".repeat(Math.min(many, 5)) + "t1,1;p1;", many < 5, 45);
      fault("t1,1;p1;".repeat(many), many <= 5, 45);
    }
    // as many likes as there is room for
    fault("p1;t0,01;" + "l0,0,1;".repeat(27), true, 0);
    EDGES.due("its length", ("p1;t0,01;" + "l0,0,1;".repeat(27)).length(), 198);
    // what is wrong by itself is wrong even where nothing more is told
    fault("p1;p1;p1;p1;p1;p10;", false, 15);
    fault("p1;t0,1;t0,1;t0,1;t0,1;t0,1;t0,1;t4,1;", false, 33);
  }

  private static void faultOfLikesAhead() {
    fault("l0,0,0;", false, 0);
    fault("l0,0,0;p1;t0,1;", false, 0);
    fault("p1;l0,0,0;t0,1;", false, 3);
    fault("t0,1;l0,0,0;p1;", false, 5);
    fault("t0,1;p1;l0,0,0;", true, 0);
    fault("p1;t0,1;l1,0,0;p1;", false, 8);
    fault("p1;t0,1;p1;l1,0,0;", true, 0);
    fault("p1;t0,1;l0,1,0;t0,1;", false, 8);
    fault("p1;t0,1;t0,1;l0,1,0;", true, 0);
    fault("p1;t0,1;l0,0,30;l0,0,30;l0,0,0;", true, 0);
  }

  /** Each sign at the place of a letter, of a figure, of a comma, of an end. */
  private static void faultOfEachSign() {
    for (int i = 32; i <= 126; i++) {
      char c = (char) i;
      boolean figure = c >= '0' && c <= '9';
      fault("p0;t0,0;" + c + "0;", c == 'p', 8);
      fault("p0;t0,0;" + c + "0,0;", c == 't', 8);
      fault("p0;t0,0;" + c + "0,0,0;", c == 'l', 8);
      fault("p" + c + ";", figure, 0);
      fault("t0," + c + ";", figure, 0);
      fault("t0,1" + c + ";", figure, c == ';' ? 5 : 0);
      // behind a figure another one, but it needs a comma behind it
      fault("t0" + c + "1;", c == ',', 0);
      fault("p0;t0,0;l0,0" + c + "1;", c == ',', 8);
      fault("p0" + c, c == ';', 0);
      fault("t0,0" + c, c == ';', 0);
    }
  }

  /** The place is that of the item's first letter, the first and the last one that there can be. */
  private static void faultPlaces() {
    fault("x", false, 0);
    String end = Parishes.BRIM_TEXT;
    for (int cut = 193; cut <= 199; cut++) {
      fault(end.substring(0, cut), false, 192);
    }
    fault(end.substring(0, 192), true, 0);
    fault(end, true, 0);
    fault("p1;t0,01;" + "l0,0,1;".repeat(27) + "p1", false, 198);
    fault("p1;t0,001;" + "l0,0,1;".repeat(27) + "p1", false, 3);
    fault("p01;t0,01;" + "l0,0,1;".repeat(27) + "p", false, 199);
    fault("p01;t0,01;" + "l0,0,1;".repeat(27) + ";", false, 199);
    // the first one of several
    fault("p1;x;p99;y", false, 3);
    fault("p99;p99;", false, 0);
    fault("p1;t0,1;l0,0,31;t9,9;", false, 8);
  }

  private static void faultLeavesAll() {
    EDGES.leaves("fault() of nothing", Parishes::first, ParishRaffle::fault, NONE);
    EDGES.leaves("fault() at the last letter", Parishes::midway, ParishRaffle::fault, 66);
    EDGES.leaves("fault() of 200 letters", Parishes::brim, ParishRaffle::fault, NONE);
  }

  // promise 5

  private static ParishRaffle midwayWith(String text) {
    ParishRaffle x = Parishes.midway();
    x.wipe();
    Check.write(x, text);
    return x;
  }

  private static void layRefused() {
    EDGES.leaves("lay() of nothing", Parishes::first, ParishRaffle::lay, NO);
    EDGES.leaves("lay() with a fault", Parishes::midway, ParishRaffle::lay, NO);
    String[] texts = {"", "t0,1;", "t0,1;t0,1;t0,1;t0,1;t0,1;t0,1;", "p10;", "p1;p1;p1;p1;p1;p1;", "p1",
      "p9;t0,30;l0,0,31;", "p1;x"};
    for (String text : texts) {
      EDGES.leaves("lay() of " + text, () -> midwayWith(text), ParishRaffle::lay, NO);
    }
    ParishRaffle full = Parishes.brim();
    full.wipe();
    for (int i = 0; i < 200; i++) {
      full.write('p');
    }
    EDGES.due("lay() of 200 letters with a fault", full.lay(), NO);
    EDGES.due("count(0)", full.count(0), 5);
    EDGES.due("count(8)", full.count(8), 2);
  }

  private static void layOfFewestAndMost() {
    for (int persons = 1; persons <= 5; persons++) {
      for (int things = 0; things <= 6; things++) {
        ParishRaffle x = new ParishRaffle();
        Check.write(x, "t3,30;".repeat(things) + "p9;".repeat(persons));
        EDGES.due("lay()", x.lay(), persons);
        EDGES.due("count(0)", x.count(0), persons);
        EDGES.due("count(1)", x.count(1), things);
        EDGES.due("count(2)", x.count(2), 9 * persons);
        EDGES.due("count(3)", x.count(3), things == 0 ? NONE : 0);
        EDGES.due("person behind the last", x.person(persons, 0), BAD);
        EDGES.due("thing behind the last", x.thing(things, 0), BAD);
      }
    }
    ParishRaffle x = Parishes.untouched();
    EDGES.due("lay() of 200 letters", x.lay(), 5);
    EDGES.due("likes(0, 2), the last letters", x.likes(0, 2), 30);
    EDGES.due("count(9)", x.count(9), 200);
  }

  /** Whatever was: nothing is noted, undone, kept, drawn, refused. */
  private static void layBeginsAnew() {
    EDGES.alike("laid again", () -> {
      ParishRaffle x = Parishes.brim();
      x.lay();
      return x;
    }, Parishes::untouched);
    EDGES.alike("laid in the middle", () -> {
      ParishRaffle x = midwayWith("p2;p3;t0,5;t1,6;l1,0,7;");
      x.lay();
      return x;
    }, () -> Check.laid("p2;p3;t0,5;t1,6;l1,0,7;"));
    // what was refused may be refused again
    EDGES.alike("laid behind a refusal", () -> {
      ParishRaffle x = Check.laid("p2;p3;t0,5;t1,6;");
      x.draw(0);
      x.refuse();
      x.lay();
      return x;
    }, () -> Check.laid("p2;p3;t0,5;t1,6;"));
    ParishRaffle y = Parishes.brim();
    EDGES.due("lay()", y.lay(), 5);
    EDGES.due("undo() then", y.undo(), NO);
    EDGES.due("back() then", y.back(), NO);
    EDGES.due("refuse() then", y.refuse(), NO);
    EDGES.due("forget() then", y.forget(), 0);
  }

  /** Nothing of a parish shows in a smaller one, or in one behind that. */
  private static void layOfLessThenMore() {
    String more = "p1;p1;p1;p1;p1;t0,1;t0,1;t0,1;t0,1;t0,1;t0,1;";
    EDGES.alike("laid behind a smaller one", () -> {
      ParishRaffle x = Parishes.first();
      Check.drawFor(x, 4, 2, 2, 1, 0, 4);
      x.wipe();
      Check.write(x, "p0;");
      x.lay();
      x.wipe();
      Check.write(x, more);
      x.lay();
      return x;
    }, () -> Check.laid(more));
    EDGES.alike("laid behind a larger one", () -> {
      ParishRaffle x = Parishes.first();
      Check.drawFor(x, 4, 2, 2, 1, 0, 4);
      x.wipe();
      Check.write(x, "p0;");
      x.lay();
      return x;
    }, Parishes::bare);
  }
}
