/** Promises 9 to 15: draw, refuse, buy, hand, swap, give, undo. */
public final class ActTest {
  private static final int BAD = ParishRaffle.BAD, NO = ParishRaffle.NO, FULL = ParishRaffle.FULL,
      NONE = ParishRaffle.NONE;
  private static final Check CHECK = new Check();

  public static void main(String[] args) {
    draw();
    drawThatCanNotBe();
    refuse();
    refuseThatCanNotBe();
    buy();
    hand();
    swap();
    give();
    undo();
    undoOfAll();
    undoAfterNothing();
    CHECK.end();
  }

  private static void draw() {
    // tickets 0 1 | 2 | 3 4 5, person 2 holding none
    ParishRaffle x = Check.laid("p2;p1;p0;p3;t0,1;t0,1;t0,1;t0,1;t0,1;t0,1;");
    CHECK.due("draw(5)", x.draw(5), 3);
    CHECK.due("draw(1)", x.draw(1), 0);
    CHECK.due("draw(1) behind it", x.draw(1), 1);
    CHECK.due("count(2)", x.count(2), 3);
    CHECK.due("draw(1), person 1 and 2 having none", x.draw(1), 3);
    CHECK.due("draw(0)", x.draw(0), 0);
    CHECK.due("count(3)", x.count(3), 5);
    CHECK.due("draw(0), the last ticket and thing", x.draw(0), 3);
    CHECK.due("person(3, 2)", x.person(3, 2), 1 | 8 | 32);
    CHECK.due("person(0, 2)", x.person(0, 2), 2 | 16);
    CHECK.due("person(1, 2)", x.person(1, 2), 4);
    CHECK.due("count(3) in the end", x.count(3), NONE);
  }

  private static void drawThatCanNotBe() {
    ParishRaffle x = Check.laid("p2;p1;t0,1;");
    CHECK.due("draw(3)", x.draw(3), BAD);
    CHECK.due("draw(-1)", x.draw(-1), BAD);
    CHECK.due("draw(least)", x.draw(Integer.MIN_VALUE), BAD);
    CHECK.due("draw(most)", x.draw(Integer.MAX_VALUE), BAD);
    CHECK.due("count(7)", x.count(7), 0);
    CHECK.due("draw(2)", x.draw(2), 1);
    CHECK.due("draw(0), nothing being next", x.draw(0), NO);
    CHECK.due("draw(2), neither of both", x.draw(2), BAD);
    CHECK.due("count(2)", x.count(2), 2);
    CHECK.due("count(7) then", x.count(7), 1);
    ParishRaffle y = Check.laid("p0;t0,1;");
    CHECK.due("draw(0) of an empty hat", y.draw(0), BAD);
    y.buy(0, 1);
    CHECK.due("draw(0) of what was bought", y.draw(0), 0);
  }

  private static void refuse() {
    ParishRaffle x = Check.laid("p3;p3;t0,1;t0,1;t0,1;");
    Check.drawFor(x, 0, 1);
    CHECK.due("refuse()", x.refuse(), 1);
    CHECK.due("thing(1, 2)", x.thing(1, 2), NONE);
    CHECK.due("count(3)", x.count(3), 1);
    CHECK.due("count(2): the ticket stays out", x.count(2), 4);
    CHECK.due("refuse() of the one ahead", x.refuse(), NO);
    CHECK.due("draw(0)", x.draw(0), 0);
    CHECK.due("refuse() a second time", x.refuse(), NO);
    CHECK.due("thing(1, 2) then", x.thing(1, 2), 0);
    CHECK.due("draw(0) of the third", x.draw(0), 0);
    CHECK.due("refuse() of the third", x.refuse(), 2);
    CHECK.due("count(3) in the end", x.count(3), 2);
  }

  private static void refuseThatCanNotBe() {
    ParishRaffle x = Check.laid("p3;p3;t0,1;t0,1;t0,1;");
    CHECK.due("refuse() of nothing", x.refuse(), NO);
    Check.drawFor(x, 0, 1);
    x.give(1, 0);
    CHECK.due("refuse() of what was given", x.refuse(), NO);
    x.give(1, 1);
    CHECK.due("refuse() of what was given back", x.refuse(), NO);
    x.undo();
    x.undo();
    CHECK.due("thing(1, 4), the gifts undone", x.thing(1, 4), 1);
    x.swap(0, 1);
    CHECK.due("refuse() of what was swapped", x.refuse(), NO);
    x.swap(1, 0);
    CHECK.due("refuse() of what was swapped back", x.refuse(), NO);
    x.undo();
    x.undo();
    x.give(0, 1);
    x.buy(0, 1);
    x.hand(0, 1);
    CHECK.due("count(7)", x.count(7), 5);
    CHECK.due("refuse(), another one being given", x.refuse(), 1);
    ParishRaffle y = Check.laid("p3;p3;t0,1;t0,1;t0,1;");
    Check.drawFor(y, 0, 1, 0);
    y.swap(0, 1);
    CHECK.due("refuse(), others being swapped", y.refuse(), 2);
  }

  private static void buy() {
    ParishRaffle x = Check.laid("p3;p0;t0,1;");
    CHECK.due("buy(0, 5)", x.buy(0, 5), 8);
    CHECK.due("buy(0, 2)", x.buy(0, 2), FULL);
    CHECK.due("buy(0, 1)", x.buy(0, 1), 9);
    CHECK.due("buy(0, 1) above 9", x.buy(0, 1), FULL);
    CHECK.due("buy(1, 9)", x.buy(1, 9), 9);
    CHECK.due("count(2)", x.count(2), 18);
    CHECK.due("person(0, 1) as laid", x.person(0, 1), 3);
    CHECK.due("draw(9) of what was bought", x.draw(9), 1);
    CHECK.due("buy(1, 1) for the one drawn", x.buy(1, 1), 9);
    CHECK.due("buy(2, 1)", x.buy(2, 1), BAD);
    CHECK.due("buy(-1, 1)", x.buy(-1, 1), BAD);
    CHECK.due("buy(0, 0)", x.buy(0, 0), BAD);
    CHECK.due("buy(0, 10)", x.buy(0, 10), BAD);
    CHECK.due("buy(0, -1)", x.buy(0, -1), BAD);
    CHECK.due("buy(0, most)", x.buy(0, Integer.MAX_VALUE), BAD);
    CHECK.due("count(7)", x.count(7), 5);
    CHECK.due("count(2) in the end", x.count(2), 18);
  }

  private static void hand() {
    ParishRaffle x = Check.laid("p1;p8;p0;t0,1;");
    CHECK.due("hand(0, 1)", x.hand(0, 1), 9);
    CHECK.due("person(0, 0)", x.person(0, 0), 0);
    CHECK.due("hand(0, 2)", x.hand(0, 2), NO);
    CHECK.due("hand(0, 1), NO and FULL", x.hand(0, 1), NO);
    x.buy(0, 1);
    CHECK.due("hand(0, 1), FULL", x.hand(0, 1), FULL);
    CHECK.due("hand(1, 2)", x.hand(1, 2), 1);
    CHECK.due("person(1, 0)", x.person(1, 0), 8);
    CHECK.due("count(2)", x.count(2), 10);
    CHECK.due("hand(1, 1)", x.hand(1, 1), BAD);
    CHECK.due("hand(3, 1)", x.hand(3, 1), BAD);
    CHECK.due("hand(1, 3)", x.hand(1, 3), BAD);
    CHECK.due("hand(-1, 1)", x.hand(-1, 1), BAD);
    CHECK.due("hand(1, -1)", x.hand(1, -1), BAD);
    CHECK.due("count(7)", x.count(7), 3);
  }

  private static void swap() {
    ParishRaffle x = Check.laid("p3;p3;t0,1;t0,1;t0,1;t0,1;");
    Check.drawFor(x, 0, 1, 0);
    CHECK.due("swap(0, 1)", x.swap(0, 1), 1);
    CHECK.due("thing(0, 2)", x.thing(0, 2), 1);
    CHECK.due("thing(1, 2)", x.thing(1, 2), 0);
    CHECK.due("swap(2, 0)", x.swap(2, 0), 1);
    CHECK.due("thing(0, 2) then", x.thing(0, 2), 0);
    CHECK.due("swap(0, 1) of one person", x.swap(0, 1), NO);
    CHECK.due("swap(0, 3), nobody having it", x.swap(0, 3), NO);
    CHECK.due("swap(3, 0), nobody having it", x.swap(3, 0), NO);
    CHECK.due("swap(2, 2)", x.swap(2, 2), BAD);
    CHECK.due("swap(3, 3)", x.swap(3, 3), BAD);
    CHECK.due("swap(4, 0)", x.swap(4, 0), BAD);
    CHECK.due("swap(0, 4)", x.swap(0, 4), BAD);
    CHECK.due("swap(-1, 0)", x.swap(-1, 0), BAD);
    CHECK.due("swap(0, -1)", x.swap(0, -1), BAD);
    CHECK.due("count(7)", x.count(7), 5);
    CHECK.due("person(0, 2)", x.person(0, 2), 3);
  }

  private static void give() {
    ParishRaffle x = Check.laid("p3;p3;p0;t0,1;t0,1;t0,1;");
    Check.drawFor(x, 0, 1);
    CHECK.due("give(0, 2)", x.give(0, 2), 0);
    CHECK.due("thing(0, 2)", x.thing(0, 2), 2);
    CHECK.due("give(0, 1)", x.give(0, 1), 2);
    CHECK.due("give(0, 1), who has it", x.give(0, 1), NO);
    CHECK.due("give(2, 0), nobody having it", x.give(2, 0), NO);
    CHECK.due("give(3, 0)", x.give(3, 0), BAD);
    CHECK.due("give(0, 3)", x.give(0, 3), BAD);
    CHECK.due("give(-1, 0)", x.give(-1, 0), BAD);
    CHECK.due("give(0, -1)", x.give(0, -1), BAD);
    CHECK.due("give(2, 3), BAD and NO", x.give(2, 3), BAD);
    CHECK.due("give(0, -4), like NONE", x.give(0, -4), BAD);
    CHECK.due("count(7)", x.count(7), 4);
    CHECK.due("person(1, 2)", x.person(1, 2), 3);
  }

  private static void undo() {
    ParishRaffle x = Check.laid("p9;p9;t0,1;t0,1;t0,1;t0,1;t0,1;t0,1;");
    CHECK.due("undo() of nothing", x.undo(), NO);
    for (int i = 0; i < 6; i++) {
      Check.drawFor(x, i % 2);
    }
    x.hand(0, 1);
    x.hand(0, 1);
    CHECK.due("count(7) of 8", x.count(7), 8);
    x.hand(0, 1);
    x.buy(0, 1);
    CHECK.due("count(7) of 10", x.count(7), 8);
    for (int i = 7; i >= 0; i--) {
      CHECK.due("undo(), " + i + " left", x.undo(), i);
    }
    CHECK.due("undo() of the ninth", x.undo(), NO);
    CHECK.due("count(3): two draws stay", x.count(3), 2);
    CHECK.due("person(0, 0)", x.person(0, 0), 8);
    CHECK.due("person(1, 0)", x.person(1, 0), 8);
    CHECK.due("count(4)", x.count(4), 2);
    Check.drawFor(x, 1);
    CHECK.due("undo() of a new draw", x.undo(), 0);
    CHECK.due("thing(1, 4): as it was then", x.thing(1, 4), 1);
  }

  private static void undoOfAll() {
    ParishRaffle x = Check.laid("p9;p8;t0,1;t0,1;t0,1;");
    Check.drawFor(x, 0, 1);
    x.give(0, 1);
    x.undo();
    CHECK.due("thing(0, 2), a gift undone", x.thing(0, 2), 0);
    x.swap(0, 1);
    x.undo();
    CHECK.due("thing(0, 2), a swap undone", x.thing(0, 2), 0);
    CHECK.due("thing(1, 2), a swap undone", x.thing(1, 2), 1);
    x.refuse();
    CHECK.due("undo() of a refusal", x.undo(), 2);
    CHECK.due("thing(1, 2), a refusal undone", x.thing(1, 2), 1);
    CHECK.due("count(3)", x.count(3), 2);
    CHECK.due("refuse(), which was undone", x.refuse(), 1);
    x.undo();
    x.buy(1, 2);
    x.undo();
    CHECK.due("person(1, 0), bought tickets undone", x.person(1, 0), 7);
    x.hand(0, 1);
    x.undo();
    CHECK.due("person(0, 0), handing on undone", x.person(0, 0), 8);
    CHECK.due("person(1, 0), handing on undone", x.person(1, 0), 7);
    CHECK.due("undo() of a draw", x.undo(), 1);
    CHECK.due("person(1, 0), a draw undone", x.person(1, 0), 8);
    CHECK.due("thing(1, 2), a draw undone", x.thing(1, 2), NONE);
    CHECK.due("count(3), a draw undone", x.count(3), 1);
  }

  /** What is no act, or could not be, is not to be undone; notes and the text stay. */
  private static void undoAfterNothing() {
    ParishRaffle x = Check.laid("p9;p8;t0,1;t0,1;");
    Check.drawFor(x, 0);
    x.note(1);
    x.write('p');
    x.keep();
    x.draw(99);
    x.buy(0, 5);
    x.year(3, 20, 1);
    CHECK.due("undo()", x.undo(), 0);
    CHECK.due("count(4)", x.count(4), 0);
    CHECK.due("count(6)", x.count(6), 1);
    CHECK.due("count(8)", x.count(8), 1);
    CHECK.due("count(9)", x.count(9), 17);
  }
}
