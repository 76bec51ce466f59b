import java.util.function.Supplier;
import java.util.function.ToLongFunction;

/**
 * Answers at the edges, and that a call leaves all as it was: an object that was asked is compared
 * with one that was not, by all that can be looked at, then undone and brought back to the end. No
 * object is used for more than 512 calls.
 */
final class Edges {
  /** No number that is told anywhere. */
  static final int[] FAR = {-1000, Integer.MIN_VALUE, Integer.MIN_VALUE + 1, 65536, Integer.MAX_VALUE};
  private final Check check = new Check();

  void due(String call, long got, long want) {
    check.due(call, got, want);
  }

  void end() {
    check.end();
  }

  /** The call answers what is due, and nothing has changed by it. */
  void leaves(String name, Supplier<ParishRaffle> made, ToLongFunction<ParishRaffle> call, long want) {
    due(name, call.applyAsLong(made.get()), want);
    alike("behind " + name, () -> asked(made, call), made);
  }

  private static ParishRaffle asked(Supplier<ParishRaffle> made, ToLongFunction<ParishRaffle> call) {
    ParishRaffle x = made.get();
    call.applyAsLong(x);
    return x;
  }

  /** Both stand alike, now, in what can be undone or brought back, and in what comes next. */
  void alike(String name, Supplier<ParishRaffle> one, Supplier<ParishRaffle> other) {
    alikeNowAndBefore(name, one.get(), other.get());
    alikeLater(name, one.get(), other.get());
  }

  private void alikeNowAndBefore(String name, ParishRaffle x, ParishRaffle y) {
    lookAll(name, x, y);
    for (int i = 0; i < 9; i++) {
      due(name + ": undo()", x.undo(), y.undo());
      glance(name + ", undone: ", x, y);
    }
    for (int i = 0; i < 3; i++) {
      due(name + ": back()", x.back(), y.back());
      glance(name + ", brought back: ", x, y);
    }
  }

  /** What was refused shows only when it is drawn again, what is written only when it is laid. */
  private void alikeLater(String name, ParishRaffle x, ParishRaffle y) {
    due(name + ": draw(0)", x.draw(0), y.draw(0));
    glance(name + ", drawn: ", x, y);
    due(name + ": lay()", x.lay(), y.lay());
    lookAll(name + ", laid", x, y);
    due(name + ": write(';')", x.write(';'), y.write(';'));
    due(name + ": fault()", x.fault(), y.fault());
  }

  /** What acts change. */
  private void glance(String name, ParishRaffle x, ParishRaffle y) {
    for (int p = 0; p < 5; p++) {
      due(name + "person(" + p + ", 0)", x.person(p, 0), y.person(p, 0));
      due(name + "person(" + p + ", 2)", x.person(p, 2), y.person(p, 2));
    }
    int next = y.count(3);
    due(name + "count(3)", x.count(3), next);
    int last = (next < 0 ? 6 : next) - 1;
    due(name + "thing(" + last + ", 4)", x.thing(last, 4), y.thing(last, 4));
  }

  private void lookAll(String name, ParishRaffle x, ParishRaffle y) {
    for (int what = 0; what < 10; what++) {
      due(name + ": count(" + what + ")", x.count(what), y.count(what));
    }
    for (int p = 0; p < 5; p++) {
      for (int what = 0; what < 4; what++) {
        due(name + ": person(" + p + ", " + what + ")", x.person(p, what), y.person(p, what));
      }
      for (int t = 0; t < 6; t++) {
        due(name + ": likes(" + p + ", " + t + ")", x.likes(p, t), y.likes(p, t));
      }
      due(name + ": fair(" + p + ", 5, 0)", x.fair(p, 5, 0), y.fair(p, 5, 0));
    }
    for (int t = 0; t < 6; t++) {
      for (int what = 0; what < 5; what++) {
        due(name + ": thing(" + t + ", " + what + ")", x.thing(t, what), y.thing(t, what));
      }
    }
    due(name + ": fault()", x.fault(), y.fault());
    due(name + ": seats(8)", x.seats(8), y.seats(8));
  }
}
