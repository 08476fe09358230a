import java.util.function.Supplier;
import java.util.function.ToIntFunction;

/** A refused call: its answer is the one told, and nothing changes by it. */
final class Refused {
  /** On a new object, on one that was asked before, and twice. */
  static void due(String name, Supplier<PointMaps> made, ToIntFunction<PointMaps> call, int answer) {
    PointMaps fresh = made.get();
    Check.due(name, answer, call.applyAsInt(fresh));
    Check.due(name + ", again", answer, call.applyAsInt(fresh));
    dueUnchanged(name, made.get(), fresh);
    PointMaps asked = Made.asked(made.get());
    Check.due(name + ", asked before", answer, call.applyAsInt(asked));
    dueUnchanged(name + ", asked before", made.get(), asked);
  }

  private static void dueUnchanged(String name, PointMaps twin, PointMaps x) {
    String difference = Probe.difference(Probe.of(twin), Probe.of(x));
    Check.so("nothing changes by " + name + ": " + difference, difference.isEmpty());
  }

  private Refused() {
  }
}
