import java.util.List;
import java.util.function.Consumer;
import java.util.function.Predicate;
import java.util.function.Supplier;

/** Two objects that no call may tell apart. */
final class Twins {
  private Twins() {}

  static void same(String what, Supplier<IndexTypeChecker> got, Supplier<IndexTypeChecker> want) {
    List<String> gotLines = Sight.of(got);
    List<String> wantLines = Sight.of(want);
    Due.is(what + ": things seen", gotLines.size(), wantLines.size());
    for (int n = 0; n < Math.min(gotLines.size(), wantLines.size()); n++) {
      if (!gotLines.get(n).equals(wantLines.get(n))) {
        Due.yes(what + ": seen is " + gotLines.get(n) + ", due is " + wantLines.get(n), false);
        return;
      }
    }
  }

  static void unchanged(String call, Supplier<IndexTypeChecker> made, Consumer<IndexTypeChecker> calls) {
    same(call + " changes nothing", after(made, calls), made);
  }

  static Supplier<IndexTypeChecker> after(Supplier<IndexTypeChecker> made, Consumer<IndexTypeChecker> calls) {
    return () -> {
      IndexTypeChecker t = made.get();
      calls.accept(t);
      return t;
    };
  }

  static void changesNothing(String call, Consumer<IndexTypeChecker> calls) {
    for (String name : States.names()) {
      unchanged(call + " on " + name, States.of(name), calls);
    }
  }

  /** The call answers false and changes nothing. */
  static void refused(String call, Supplier<IndexTypeChecker> made, Predicate<IndexTypeChecker> asked) {
    Due.no(call, asked.test(made.get()));
    unchanged(call, made, asked::test);
  }

  static void refused(String call, Predicate<IndexTypeChecker> asked) {
    for (String name : States.names()) {
      refused(call + " on " + name, States.of(name), asked);
    }
  }
}
