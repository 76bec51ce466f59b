/**
 * The document from its first line on, sentence by sentence in its own order, each with answers that
 * were reckoned by hand. The promises one by one are in the other tests.
 */
public final class DocumentTest {
  private static final int BAD = ParishRaffle.BAD, NO = ParishRaffle.NO, FULL = ParishRaffle.FULL,
      NONE = ParishRaffle.NONE;
  private static final Edges EDGES = new Edges();
  private static String sentence = "";

  public static void main(String[] args) {
    texts();
    likings();
    laid();
    drawn();
    refused();
    worths();
    acts();
    undone();
    chances();
    needs();
    swapsAndGives();
    sharing();
    envyAndRing();
    noted();
    year();
    kept();
    whichAnswerFirst();
    upToTheLastCall();
    EDGES.end();
  }

  private static void says(String words) {
    sentence = words;
  }

  private static void due(String call, long got, long want) {
    EDGES.due("'" + sentence + "': " + call, got, want);
  }

  private static void fault(String text, int want) {
    ParishRaffle x = new ParishRaffle();
    Check.write(x, text);
    due("fault() of " + text, x.fault(), want);
  }

  /** Laid, with things drawn for these persons. */
  private static ParishRaffle drawn(String text, int... persons) {
    ParishRaffle x = Check.laid(text);
    Check.drawFor(x, persons);
    return x;
  }

  // 1

  private static void texts() {
    says("A TEXT is letters (200 at most), ITEMS one behind the other");
    fault("", NONE);
    fault("p1;p2;t0,1;", NONE);
    fault("p1; p2;", 3);
    fault("p1;;", 3);
    fault(" p1;", 0);
    says("each a letter, then numbers (one or two figures) parted by , and a ; behind the last one");
    fault("p;", 0);
    fault("p1", 0);
    fault("p1,", 0);
    fault("p1,;", 0);
    fault("p1,2;", 0);
    fault("p001;", 0);
    fault("p01;", NONE);
    fault("P1;", 0);
    fault("1;", 0);
    fault("p1;t0,12;t0", 9);
    says("pT a PERSON who holds T (0 to 9) TICKETS; 5 at most");
    fault("p0;p9;", NONE);
    fault("p0;p10;", 3);
    fault("p1;p1;p1;p1;p1;", NONE);
    fault("p1;p1;p1;p1;p1;p1;", 15);
    says("tK,W a THING of KIND K (0 .. 3), of WORTH W (0 to 30); 6 at most");
    fault("t0,0;t1,30;t2,5;t3,05;", NONE);
    fault("t4,0;", 0);
    fault("t0,0;t0,31;", 5);
    fault("t0;", 0);
    fault("t0,1;t0,1;t0,1;t0,1;t0,1;t0,1;", NONE);
    fault("t0,1;t0,1;t0,1;t0,1;t0,1;t0,1;t0,1;", 30);
    says("FAULT: the place (from 0 on) of the first letter of the first ITEM that is not so");
    fault("p1;t0,99;x", 3);
  }

  private static void likings() {
    says("lP,T,L PERSON P LIKES THING T (both told ahead) by L (0 to 30) more");
    fault("p1;t0,1;l0,0,0;l0,0,30;", NONE);
    fault("p1;t0,1;l0,0,31;", 8);
    fault("p1;t0,1;l1,0,1;", 8);
    fault("p1;t0,1;l0,1,1;", 8);
    fault("p1;l0,0,1;t0,1;", 3);
    fault("t0,1;l0,0,1;p1;", 5);
    says("0 without; the last one of both");
    ParishRaffle x = Check.laid("p1;p1;t0,1;t0,1;l1,0,4;l1,0,7;l0,1,9;l0,1,0;");
    due("likes(1, 0)", x.likes(1, 0), 7);
    due("likes(0, 1)", x.likes(0, 1), 0);
    due("likes(1, 1)", x.likes(1, 1), 0);
  }

  // Terms

  private static void laid() {
    says("LAID is a TEXT without FAULT, of a PERSON at least (NO else");
    ParishRaffle x = new ParishRaffle();
    due("lay() of nothing", x.lay(), NO);
    Check.write(x, "t0,1;");
    due("lay() without a person", x.lay(), NO);
    Check.write(x, "p3;p");
    due("lay() with a fault", x.lay(), NO);
    due("count(0) as at first", x.count(0), 5);
    Check.write(x, "4;");
    due("lay()", x.lay(), 2);
    due("count(9): the text stays", x.count(9), 11);
    says("at first p3;p1;p5;p0;p2;t0,12; ..");
    EDGES.alike("a new object", () -> wiped(Check.laid(Parishes.FIRST_TEXT)), ParishRaffle::new);
    ParishRaffle first = new ParishRaffle();
    due("thing(3, 0)", first.thing(3, 0), 2);
    due("thing(3, 1)", first.thing(3, 1), 6);
    due("likes(4, 5)", first.likes(4, 5), 12);
    says("At first all TICKETS are in the HAT, nothing was DRAWN; the first THING is NEXT");
    due("count(2)", first.count(2), 11);
    due("count(4)", first.count(4), 0);
    due("count(3)", first.count(3), 0);
  }

  private static ParishRaffle wiped(ParishRaffle x) {
    x.wipe();
    return x;
  }

  // 2

  private static void drawn() {
    says("TICKETS in the HAT are numbered from 0, those of PERSON 0 first, then 1, ..");
    int[] holders = {0, 0, 0, 1, 2, 2, 2, 2, 2, 4, 4};
    for (int k = 0; k < holders.length; k++) {
      due("draw(" + k + ")", new ParishRaffle().draw(k), holders[k]);
    }
    says("A THING is DRAWN by a TICKET of the HAT: the TICKET goes out of it, its PERSON has the THING");
    ParishRaffle x = new ParishRaffle();
    due("draw(3)", x.draw(3), 1);
    due("person(1, 0)", x.person(1, 0), 0);
    due("person(1, 1)", x.person(1, 1), 1);
    due("person(1, 2)", x.person(1, 2), 1);
    due("thing(0, 2)", x.thing(0, 2), 1);
    due("thing(0, 3)", x.thing(0, 3), 1);
    due("draw(3) again", x.draw(3), 2);
    says("the one told behind it is NEXT");
    due("count(3)", x.count(3), 2);
    due("thing(2, 3)", x.thing(2, 3), 0);
  }

  private static void refused() {
    says("The THING DRAWN last may be REFUSED by who has it");
    ParishRaffle x = drawn("p2;p2;t0,1;t0,2;t0,3;", 0, 1);
    due("thing(0, 4)", x.thing(0, 4), 0);
    due("thing(1, 4)", x.thing(1, 4), 1);
    due("refuse()", x.refuse(), 1);
    says("nobody has it, and it is NEXT again (the TICKET stays out)");
    due("thing(1, 2)", x.thing(1, 2), NONE);
    due("thing(1, 3)", x.thing(1, 3), 0);
    due("count(3)", x.count(3), 1);
    due("count(2)", x.count(2), 2);
    says("unless it was SWAPPED, GIVEN since, or REFUSED before");
    due("refuse(), refused", x.refuse(), NO);
    due("draw(0)", x.draw(0), 0);
    due("thing(1, 4), refused before", x.thing(1, 4), 0);
    due("refuse(), refused before", x.refuse(), NO);
    ParishRaffle swapped = drawn("p2;p2;t0,1;t0,2;", 0, 1);
    swapped.swap(1, 0);
    due("refuse(), swapped", swapped.refuse(), NO);
    ParishRaffle given = drawn("p2;p2;t0,1;t0,2;", 0, 1);
    given.give(0, 1);
    due("thing(1, 4), the other one given", given.thing(1, 4), 1);
    given.give(1, 0);
    due("thing(1, 4), given", given.thing(1, 4), 0);
    due("refuse(), given", given.refuse(), NO);
  }

  private static void worths() {
    says("WORTH of all that a PERSON has is the sum of what its THINGS are WORTH to it");
    ParishRaffle x = Check.laid("p9;p9;t0,12;t1,8;t2,6;t3,10;t3,7;l0,0,4;l0,1,5;l0,2,3;l0,3,2;");
    due("nothing", x.person(0, 3), 1000);
    Check.drawFor(x, 0);
    due("a GOOD one its W and what it LIKES it by", x.person(0, 3), 1016);
    Check.drawFor(x, 0);
    due("a BAD one what it LIKES it by, less W", x.person(0, 3), 1013);
    Check.drawFor(x, 0);
    due("a FROST one just what it LIKES it by, if it has a GOOD one", x.person(0, 3), 1016);
    Check.drawFor(x, 0);
    due("one of a PAIR just what it LIKES it by", x.person(0, 3), 1018);
    Check.drawFor(x, 0);
    due("both of a PAIR, if it has another one of a PAIR", x.person(0, 3), 1035);
    x.give(0, 1);
    due("a FROST one likewise, without a GOOD one", x.person(0, 3), 1013);
    due("to the other one", x.person(1, 3), 1012);
    x.give(4, 1);
    due("the PAIR parted", x.person(0, 3), 996);
    due("the PAIR parted, of all", x.count(5), 1008);
  }

  private static void acts() {
    says("A PERSON buys TICKETS that are in the HAT from then on (9 of each in it at most)");
    ParishRaffle x = drawn("p3;p2;p0;t0,1;t0,2;t0,3;", 1, 0);
    due("buy(0, 7)", x.buy(0, 7), 9);
    due("buy(0, 1)", x.buy(0, 1), FULL);
    due("person(0, 1), as laid", x.person(0, 1), 3);
    says("one hands on a TICKET of its in the HAT to another one");
    due("hand(1, 2)", x.hand(1, 2), 1);
    due("person(1, 0)", x.person(1, 0), 0);
    due("hand(1, 2), none left", x.hand(1, 2), NO);
    due("hand(2, 0), who has 9", x.hand(2, 0), FULL);
    due("draw(9), by what was handed on", x.draw(9), 2);
    says("Two PERSONS SWAP THINGS that they have");
    due("swap(0, 1)", x.swap(0, 1), 0);
    due("thing(0, 2)", x.thing(0, 2), 0);
    due("thing(1, 2)", x.thing(1, 2), 1);
    says("a THING is GIVEN to another PERSON");
    due("give(1, 0)", x.give(1, 0), 1);
    due("person(0, 2)", x.person(0, 2), 3);
    due("give(1, 0) again", x.give(1, 0), NO);
    due("swap(0, 1), one has both", x.swap(0, 1), NO);
  }

  private static void undone() {
    says("UNDONE are the latest of all of these (the last 8 can be)");
    ParishRaffle x = Check.laid("p3;p3;t0,1;t0,2;t0,3;");
    x.buy(0, 1);
    x.buy(0, 1);
    x.draw(0);
    x.refuse();
    x.draw(6);
    x.draw(0);
    x.hand(0, 1);
    x.swap(0, 1);
    x.give(0, 1);
    due("count(7)", x.count(7), 8);
    due("undo() of a give", x.undo(), 7);
    due("thing(0, 2)", x.thing(0, 2), 0);
    due("undo() of a swap", x.undo(), 6);
    due("thing(0, 2)", x.thing(0, 2), 1);
    due("thing(1, 4)", x.thing(1, 4), 1);
    due("undo() of a hand", x.undo(), 5);
    due("person(1, 0)", x.person(1, 0), 2);
    due("undo() of a draw", x.undo(), 4);
    due("count(3)", x.count(3), 1);
    due("undo() of a draw of what was refused", x.undo(), 3);
    due("thing(0, 2)", x.thing(0, 2), NONE);
    due("undo() of a refusal", x.undo(), 2);
    due("thing(0, 4)", x.thing(0, 4), 1);
    due("undo() of a draw", x.undo(), 1);
    due("person(0, 0)", x.person(0, 0), 5);
    due("undo() of what was bought", x.undo(), 0);
    due("person(0, 0)", x.person(0, 0), 4);
    due("undo() of the ninth", x.undo(), NO);
  }

  // 3

  private static void chances() {
    says("WINS .. how likely it has one at least of the n THINGS DRAWN next (of fewer, if there are fewer)");
    ParishRaffle x = Check.laid("p1;p2;t0,4;t0,6;");
    fraction("wins(0, 1)", x.wins(0, 1, 0), x.wins(0, 1, 1), 1, 3);
    fraction("wins(0, 2)", x.wins(0, 2, 0), x.wins(0, 2, 1), 2, 3);
    fraction("wins(0, 6)", x.wins(0, 6, 0), x.wins(0, 6, 1), 2, 3);
    fraction("wins(1, 2)", x.wins(1, 2, 0), x.wins(1, 2, 1), 1, 1);
    says("MEAN of a PERSON: WORTH in the mean of all that it has when all are DRAWN");
    fraction("mean(0)", x.mean(0, 0), x.mean(0, 1), 3010, 3);
    fraction("mean(1)", x.mean(1, 0), x.mean(1, 1), 3020, 3);
    says("From now on");
    x.draw(0);
    fraction("wins(0, 6), its ticket out", x.wins(0, 6, 0), x.wins(0, 6, 1), 0, 1);
    fraction("mean(0), what it has", x.mean(0, 0), x.mean(0, 1), 1004, 1);
    fraction("mean(1), what is left", x.mean(1, 0), x.mean(1, 1), 1006, 1);
    says("things stay undrawn, when it is empty");
    ParishRaffle y = Check.laid("p1;p1;t0,4;t0,6;t0,8;");
    fraction("wins(0, 6)", y.wins(0, 6, 0), y.wins(0, 6, 1), 1, 1);
    fraction("mean(0)", y.mean(0, 0), y.mean(0, 1), 1005, 1);
    y.draw(0);
    y.draw(0);
    fraction("wins(0, 1), none in it", y.wins(0, 1, 0), y.wins(0, 1, 1), 0, 1);
    says("MEAN goes by WORTH of all that it has, not by THINGS one by one");
    ParishRaffle z = Check.laid("p2;p1;t3,4;t3,6;");
    fraction("mean(0), both by 1/3", z.mean(0, 0), z.mean(0, 1), 3010, 3);
    fraction("mean(1), never both", z.mean(1, 0), z.mean(1, 1), 1000, 1);
  }

  private static void fraction(String call, long above, long below, long wantAbove, long wantBelow) {
    due(call + ", above", above, wantAbove);
    due(call + ", below", below, wantBelow);
  }

  private static void needs() {
    says("NEEDS .. the fewest TICKETS (0 to 9 in the HAT, in place of its own)");
    ParishRaffle x = Check.laid("p7;p2;t0,1;t0,1;");
    int[] forOne = {1, 1, 1, 2, 2, 3, 5, 8, NONE, NONE};
    int[] forTwo = {1, 1, 1, 1, 1, 1, 2, 2, 3, NONE};
    for (int tenths = 1; tenths <= 10; tenths++) {
      due("needs(0, 1, " + tenths + ")", x.needs(0, 1, tenths), forOne[tenths - 1]);
      due("needs(0, 2, " + tenths + ")", x.needs(0, 2, tenths), forTwo[tenths - 1]);
    }
    due("needs(0, 1, 10), the only one", Check.laid("p0;p0;t0,1;").needs(0, 1, 10), 1);
    due("needs(0, 1, 1), nothing is next", Check.laid("p5;").needs(0, 1, 1), NONE);
  }

  private static void swapsAndGives() {
    says("SWAP: of all two THINGS, of unlike PERSONS, that, SWAPPED, were more WORTH to both");
    ParishRaffle x = drawn("p2;p2;t0,5;t0,5;t0,5;l0,1,3;l0,2,3;l1,0,3;", 0, 1, 1);
    due("swaps()", x.swaps(), 1);
    x.swap(0, 1);
    due("swaps() then", x.swaps(), NONE);
    due("more to just one", drawn("p1;p1;t0,5;t0,5;l0,1,3;", 0, 1).swaps(), NONE);
    says("GIVE: .. such that WORTH of neither is less, that of one is more");
    due("more to both", drawn("p1;p1;t1,8;l1,0,9;", 0).gives(), 1);
    due("more to who gives", drawn("p1;p1;t1,8;l1,0,8;", 0).gives(), 1);
    due("less to whom it is given", drawn("p1;p1;t1,8;l1,0,7;", 0).gives(), NONE);
    due("more to whom it is given", drawn("p1;p1;t0,0;l1,0,1;", 0).gives(), 1);
    due("less to who gives", drawn("p1;p1;t0,1;l1,0,30;", 0).gives(), NONE);
    due("more to none", drawn("p1;p1;t0,0;", 0).gives(), NONE);
    due("by the THING, then whom", drawn("p2;p1;p1;t0,9;t0,0;l1,1,1;l2,1,9;", 0, 0).gives(), 11);
  }

  private static void sharing() {
    says("SHARE: .. that by which WORTH of all in sum is most, of several the first");
    ParishRaffle x = drawn("p2;p2;t0,5;t3,4;t3,6;t0,9;l1,0,2;", 0, 1, 0);
    due("share(-1)", x.share(-1), 1017);
    due("share(0)", x.share(0), 1);
    due("share(1)", x.share(1), 0);
    due("share(2)", x.share(2), 0);
    due("share(3), which nobody has", x.share(3), NONE);
    due("share(4)", x.share(4), BAD);
    due("share(-2)", x.share(-2), BAD);
    due("it is just told: thing(0, 2)", x.thing(0, 2), 0);
  }

  private static void envyAndRing() {
    says("ENVY: .. the one would have more WORTH by all that the other one has than by all that it has itself");
    ParishRaffle x = drawn("p1;p1;p1;t0,5;t0,5;t0,5;l0,1,3;l1,2,3;l2,0,3;", 0, 1, 2);
    due("envy()", x.envy(), 1);
    says("RING: the fewest PERSONS, 2 at least, in a row, each of whom ENVIES the next");
    due("ring() of three", x.ring(), 3);
    x.swap(0, 1);
    due("envy(), 0 being content", x.envy(), 12);
    due("ring() of two", x.ring(), 2);
    x.swap(0, 2);
    due("envy(), all being content", x.envy(), NONE);
    due("ring(), all being content", x.ring(), NONE);
    ParishRaffle y = drawn("p1;p1;t0,5;", 1);
    due("envy() of who has something", y.envy(), 1);
    due("ring(), one way alone", y.ring(), NONE);
  }

  // 4

  private static void noted() {
    says("NOTED (8 at most) is that a TICKET of a PERSON was DRAWN, of a HAT in which all held as many as LAID");
    ParishRaffle x = drawn("p1;p3;p0;t0,1;", 0);
    says("FAIR .. how likely it is such a one, by all that is NOTED, in lowest terms");
    fraction("fair(0, 5), nothing noted", x.fair(0, 5, 0), x.fair(0, 5, 1), 1, 2);
    due("note(0)", x.note(0), 1);
    // 2/5 against 1/4, then 6/25 against 3/16
    fraction("fair(0, 5)", x.fair(0, 5, 0), x.fair(0, 5, 1), 8, 13);
    due("note(1)", x.note(1), 2);
    fraction("fair(0, 5)", x.fair(0, 5, 0), x.fair(0, 5, 1), 32, 57);
    says("none (that can not have been)");
    due("note(2), who has no ticket", x.note(2), 3);
    due("fair(0, 5, 0)", x.fair(0, 5, 0), NONE);
    due("forget()", x.forget(), 3);
    fraction("fair(1, 9)", x.fair(1, 9, 0), x.fair(1, 9, 1), 9, 10);
    for (int i = 1; i <= 8; i++) {
      due("note(1)", x.note(1), i);
    }
    due("note(1), the ninth", x.note(1), FULL);
    says("SEATS .. of which none is of the same PERSON as the one ahead");
    long[] rows = {1, 4, 6, 12, 18, 36, 54, 108, 162};
    for (int m = 0; m < rows.length; m++) {
      due("seats(" + m + ")", x.seats(m), rows[m]);
    }
  }

  /** DRAW is 36549, 21856, 10, 36532 in year 192: 1, 0, 2, 0 modulo 4. */
  private static void year() {
    says("A YEAR by z (0 to 9999) of n (1 to 60) from now on (nothing changes by it)");
    ParishRaffle x = Check.laid("p1;p2;t0,4;t1,3;l0,0,1;l1,0,2;l0,1,3;l1,1,7;");
    // 1 buys two; the fifth of 5 is its own; thing 0 goes to 0; the second of 4 is of 1
    int[] things = {0, 1, 1, 2};
    int[] worths = {1000, 1006, 1005, 1009};
    for (int n = 1; n <= 4; n++) {
      due("year(192, " + n + ", 0)", x.year(192, n, 0), things[n - 1]);
      due("year(192, " + n + ", 1)", x.year(192, n, 1), worths[n - 1]);
    }
    due("count(2)", x.count(2), 3);
    due("count(3)", x.count(3), 0);
    due("count(7)", x.count(7), 0);
  }

  private static void kept() {
    says("KEPT is all as it stands, but what is NOTED and THE TEXT (these stay by back(), behind which"
        + " nothing can be UNDONE): 2 at most");
    ParishRaffle x = drawn("p2;p2;t0,4;t0,6;", 1);
    due("keep()", x.keep(), 1);
    x.buy(0, 3);
    due("keep()", x.keep(), 2);
    due("keep(), the third", x.keep(), FULL);
    x.draw(0);
    x.note(1);
    x.write('p');
    due("back()", x.back(), 1);
    due("person(0, 0)", x.person(0, 0), 5);
    due("count(3)", x.count(3), 1);
    due("count(6)", x.count(6), 1);
    due("count(9)", x.count(9), 17);
    due("count(7)", x.count(7), 0);
    due("undo()", x.undo(), NO);
    due("back()", x.back(), 0);
    due("person(0, 0)", x.person(0, 0), 2);
    due("thing(0, 4), as it stood", x.thing(0, 4), 1);
    due("back(), none kept", x.back(), NO);
  }

  private static void whichAnswerFirst() {
    says("Of several the first in this order, whatever the order at a call; nothing changes then");
    ParishRaffle x = drawn("p1;p9;p0;t0,1;", 0);
    due("draw(9): BAD ahead of NO", x.draw(9), BAD);
    due("draw(8): NO", x.draw(8), NO);
    due("hand(0, 3): BAD ahead of NO", x.hand(0, 3), BAD);
    due("hand(0, 1): NO ahead of FULL", x.hand(0, 1), NO);
    due("buy(1, 10): BAD ahead of FULL", x.buy(1, 10), BAD);
    due("buy(1, 1): FULL", x.buy(1, 1), FULL);
    due("give(0, 3): BAD ahead of NO", x.give(0, 3), BAD);
    due("swap(0, 0): BAD", x.swap(0, 0), BAD);
    due("needs(0, 1, 11): BAD ahead of NONE", x.needs(0, 1, 11), BAD);
    due("needs(0, 1, 10): NONE", x.needs(0, 1, 10), NONE);
    x.note(2);
    due("fair(0, 10, 0): BAD ahead of NONE", x.fair(0, 10, 0), BAD);
    due("fair(0, 9, 0): NONE", x.fair(0, 9, 0), NONE);
    due("count(7)", x.count(7), 1);
    due("count(2)", x.count(2), 9);
    ParishRaffle y = new ParishRaffle();
    for (int i = 0; i < 200; i++) {
      y.write('p');
    }
    due("write(127): BAD ahead of FULL", y.write(127), BAD);
    due("write(126): FULL", y.write(126), FULL);
  }

  private static void upToTheLastCall() {
    says("An object is used for at most 512 calls after it has been made");
    ParishRaffle x = new ParishRaffle();
    for (int call = 1; call <= 511; call++) {
      due("call " + call, call % 2 == 1 ? x.buy(3, 9) : x.hand(3, 3), call == 1 ? 9 : call % 2 == 1 ? FULL : BAD);
    }
    due("call 512", x.count(2), 20);
  }
}
