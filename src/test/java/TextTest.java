/** Promises 1 to 5: a new object, write, wipe, fault, lay. */
public final class TextTest {
  private static final Check CHECK = new Check();

  public static void main(String[] args) {
    newObject();
    writeAndWipe();
    textsWithoutFault();
    textsWithFault();
    lay();
    layForgets();
    laidStays();
    layThatCanNotBe();
    CHECK.end();
  }

  private static void newObject() {
    ParishRaffle x = new ParishRaffle();
    int[] counts = {5, 6, 11, 0, 0, 1000, 0, 0, 0, 0};
    for (int what = 0; what < counts.length; what++) {
      CHECK.due("new: count(" + what + ")", x.count(what), counts[what]);
    }
    int[] tickets = {3, 1, 5, 0, 2};
    int[] kinds = {0, 1, 3, 2, 3, 0};
    int[] worths = {12, 8, 10, 6, 7, 3};
    int[][] likes = {{4, 0, 0, 0, 0, 0}, {0, 0, 6, 0, 0, 0}, {0, 5, 0, 0, 9, 0}, {20, 0, 0, 0, 0, 0}, {0, 0, 0, 0, 0, 12}};
    for (int p = 0; p < 5; p++) {
      CHECK.due("new: person(" + p + ", 0)", x.person(p, 0), tickets[p]);
      CHECK.due("new: person(" + p + ", 1)", x.person(p, 1), tickets[p]);
      for (int t = 0; t < 6; t++) {
        CHECK.due("new: likes(" + p + ", " + t + ")", x.likes(p, t), likes[p][t]);
      }
    }
    for (int t = 0; t < 6; t++) {
      CHECK.due("new: thing(" + t + ", 0)", x.thing(t, 0), kinds[t]);
      CHECK.due("new: thing(" + t + ", 1)", x.thing(t, 1), worths[t]);
      CHECK.due("new: thing(" + t + ", 2)", x.thing(t, 2), ParishRaffle.NONE);
    }
    CHECK.due("new: undo()", x.undo(), ParishRaffle.NO);
    CHECK.due("new: back()", x.back(), ParishRaffle.NO);
    CHECK.due("new: fault()", x.fault(), ParishRaffle.NONE);
    CHECK.due("new: lay()", x.lay(), ParishRaffle.NO);
  }

  private static void writeAndWipe() {
    ParishRaffle x = new ParishRaffle();
    CHECK.due("write(31)", x.write(31), ParishRaffle.BAD);
    CHECK.due("write(127)", x.write(127), ParishRaffle.BAD);
    CHECK.due("write(-1)", x.write(-1), ParishRaffle.BAD);
    CHECK.due("write(65536 + 'p')", x.write(65536 + 'p'), ParishRaffle.BAD);
    CHECK.due("count(9) behind these", x.count(9), 0);
    CHECK.due("write(32)", x.write(32), 1);
    CHECK.due("write(126)", x.write(126), 2);
    CHECK.due("wipe()", x.wipe(), 2);
    CHECK.due("wipe() again", x.wipe(), 0);
    for (int i = 1; i <= 200; i++) {
      CHECK.due("write, the " + i + "-th", x.write('p'), i);
    }
    CHECK.due("write, one too many", x.write('p'), ParishRaffle.FULL);
    CHECK.due("write, one too many and BAD", x.write(127), ParishRaffle.BAD);
    CHECK.due("count(9)", x.count(9), 200);
    CHECK.due("fault() of 200", x.fault(), 0);
    CHECK.due("wipe() of 200", x.wipe(), 200);
    CHECK.due("count(9) then", x.count(9), 0);
    CHECK.due("write then", x.write('p'), 1);
  }

  private static int faultOf(String text) {
    ParishRaffle x = new ParishRaffle();
    Check.write(x, text);
    return x.fault();
  }

  private static void textsWithoutFault() {
    String[] texts = {"", "p0;", "p9;", "p00;", "p09;", "t0,0;", "t3,30;", "t03,05;", "p1;p1;p1;p1;p1;",
      "t0,1;t0,1;t0,1;t0,1;t0,1;t0,1;", "t0,1;p1;l0,0,0;", "p1;t0,1;l0,0,30;l00,00,07;",
      "p1;t0,1;l0,0,1;p1;l1,0,2;t1,1;l1,1,3;"};
    for (String text : texts) {
      CHECK.due("fault() of " + text, faultOf(text), ParishRaffle.NONE);
    }
    CHECK.due("fault() of 200 letters", faultOf(longText("p01;t00,01;", 200)), ParishRaffle.NONE);
    CHECK.due("lay() of 200 letters", Check.laid(longText("p01;t00,01;", 200)).count(9), 200);
  }

  /** A text of so many letters, told to its end by likes, and cut there. */
  private static String longText(String begin, int letters) {
    StringBuilder s = new StringBuilder(begin);
    while (s.length() < letters) {
      s.append("l0,0,1;");
    }
    return s.substring(0, letters);
  }

  private static void fault(String text, int place) {
    CHECK.due("fault() of " + text, faultOf(text), place);
  }

  private static void textsWithFault() {
    fault("p10;", 0);
    fault("p", 0);
    fault("p;", 0);
    fault("p1", 0);
    fault("p1,", 0);
    fault("p1,2;", 0);
    fault("p001;", 0);
    fault("p-1;", 0);
    fault("p 1;", 0);
    fault(";", 0);
    fault(" ", 0);
    fault("P1;", 0);
    fault("q1;", 0);
    fault("1;", 0);
    fault("p1;;", 3);
    fault("p1; p1;", 3);
    fault("p1;p1;p1;p1;p1;p1;", 15);
    fault("p1;p1;x;p99;", 6);
    fault("t4,1;", 0);
    fault("t0,31;", 0);
    fault("t0;", 0);
    fault("t0,1,1;", 0);
    fault("t0,1", 0);
    fault("t0 1;", 0);
    fault("t,1;", 0);
    fault("t0,;", 0);
    fault("t0,1;t0,1;t0,1;t0,1;t0,1;t0,1;t0,1;", 30);
    fault("p1;t0,1;l0,0;", 8);
    fault("p1;t0,1;l0,0,31;", 8);
    fault("p1;t0,1;l1,0,1;", 8);
    fault("p1;t0,1;l0,1,1;", 8);
    fault("p1;l0,0,1;t0,1;", 3);
    fault("t0,1;l0,0,1;p1;", 5);
    fault("p1;t0,1;l0,0,1,1;", 8);
    fault("p1;t0,1;l0,0,1;l0,0,1", 15);
    fault("p1;t0,1;l0;0;1;", 8);
    // cut at each letter of the last item
    for (int end = 194; end < 200; end++) {
      fault(longText("p01;t00,01;", end), 193);
    }
    for (int begin = 4; begin < 11; begin++) {
      fault(longText("p01;t00,01;".substring(0, begin), 200), 4);
    }
    fault(longText("p01;t0,01;", 199) + "p", 199);
    fault(longText("p1;t0,01;", 198) + "p1", 198);
  }

  private static void lay() {
    ParishRaffle x = new ParishRaffle();
    Check.write(x, "t3,30;p2;t2,07;p09;l1,0,5;l0,1,3;l1,0,30;p0;");
    CHECK.due("lay()", x.lay(), 3);
    int[] counts = {3, 2, 11, 0, 0, 1000, 0, 0, 0, 44};
    for (int what = 0; what < counts.length; what++) {
      CHECK.due("laid: count(" + what + ")", x.count(what), counts[what]);
    }
    CHECK.due("laid: person(1, 0)", x.person(1, 0), 9);
    CHECK.due("laid: person(2, 1)", x.person(2, 1), 0);
    CHECK.due("laid: thing(0, 0)", x.thing(0, 0), 3);
    CHECK.due("laid: thing(1, 1)", x.thing(1, 1), 7);
    CHECK.due("laid: likes(1, 0), the last one", x.likes(1, 0), 30);
    CHECK.due("laid: likes(0, 1)", x.likes(0, 1), 3);
    CHECK.due("laid: likes(0, 0), as before no more", x.likes(0, 0), 0);
    CHECK.due("lay() again", x.lay(), 3);
    x.wipe();
    Check.write(x, "p4;");
    CHECK.due("lay() of a person alone", x.lay(), 1);
    CHECK.due("count(1) then", x.count(1), 0);
    CHECK.due("count(2) then", x.count(2), 4);
    CHECK.due("count(3) then", x.count(3), ParishRaffle.NONE);
    CHECK.due("draw(0) then", x.draw(0), ParishRaffle.NO);
  }

  private static void layForgets() {
    ParishRaffle x = new ParishRaffle();
    Check.write(x, "p2;t0,1;t0,1;");
    x.draw(0);
    x.refuse();
    x.draw(0);
    x.keep();
    x.note(0);
    CHECK.due("lay()", x.lay(), 1);
    CHECK.due("count(2): the hat as laid", x.count(2), 2);
    CHECK.due("count(3): the first is next", x.count(3), 0);
    CHECK.due("count(4): nobody has one", x.count(4), 0);
    CHECK.due("count(6): nothing noted", x.count(6), 0);
    CHECK.due("count(7): nothing to undo", x.count(7), 0);
    CHECK.due("count(8): nothing kept", x.count(8), 0);
    CHECK.due("count(9): the text stays", x.count(9), 13);
    CHECK.due("undo()", x.undo(), ParishRaffle.NO);
    CHECK.due("back()", x.back(), ParishRaffle.NO);
    CHECK.due("forget()", x.forget(), 0);
    x.draw(0);
    CHECK.due("refuse(): not refused in this parish", x.refuse(), 0);
  }

  /** What is laid is not touched by what is written later, nor does it show behind another one. */
  private static void laidStays() {
    ParishRaffle x = Check.laid("p2;p3;t0,5;t1,6;l0,0,7;l1,1,8;");
    x.wipe();
    Check.write(x, "p9;t2,9;l0,0,1;");
    for (int i = 0; i < 2; i++) {
      CHECK.due("fault()", x.fault(), ParishRaffle.NONE);
      CHECK.due("count(0)", x.count(0), 2);
      CHECK.due("person(0, 1)", x.person(0, 1), 2);
      CHECK.due("thing(0, 0)", x.thing(0, 0), 0);
      CHECK.due("likes(0, 0)", x.likes(0, 0), 7);
    }
    CHECK.due("lay() of the second", x.lay(), 1);
    x.wipe();
    Check.write(x, "p1;p1;t0,1;t0,1;");
    CHECK.due("fault() of the third", x.fault(), ParishRaffle.NONE);
    CHECK.due("likes(0, 0) of the second", x.likes(0, 0), 1);
    CHECK.due("lay() of the third", x.lay(), 2);
    CHECK.due("likes(0, 0) of the third", x.likes(0, 0), 0);
    CHECK.due("likes(1, 1) of the third", x.likes(1, 1), 0);
    CHECK.due("count(2) of the third", x.count(2), 2);
  }

  private static void layThatCanNotBe() {
    String[] texts = {"", "t0,1;", "p1;p1;t0,1;x", "p10;", "p1;l0,0,1;"};
    for (String text : texts) {
      ParishRaffle x = new ParishRaffle();
      x.draw(0);
      x.keep();
      x.note(0);
      Check.write(x, text);
      CHECK.due("lay() of " + text, x.lay(), ParishRaffle.NO);
      int[] counts = {5, 6, 10, 1, 1, 1016, 1, 1, 1, text.length()};
      for (int what = 0; what < counts.length; what++) {
        CHECK.due("not laid: count(" + what + ")", x.count(what), counts[what]);
      }
      CHECK.due("not laid: likes(0, 0)", x.likes(0, 0), 4);
      CHECK.due("not laid: person(2, 1)", x.person(2, 1), 5);
      CHECK.due("not laid: back()", x.back(), 0);
    }
  }
}
