import java.util.ArrayList;
import java.util.EnumSet;
import java.util.List;

/** Two objects with the same past: what a call on one of them changes, the other one shows. */
final class Twins {
  /** All that an object holds, by the calls that bring it to light. */
  enum Part { FLOOR, UNDO, IMAGE_0, IMAGE_1, TESTS, TEXT, TRACE }

  interface Calls {
    long on(EggScales x);
  }

  private final Due due;

  Twins(Due due) {
    this.due = due;
  }

  /** A call that is refused answers as told and changes nothing. */
  void refused(String name, Calls past, Calls call, long want) {
    EggScales x = new EggScales();
    past.on(x);
    due.is(name, call.on(x), want);
    leaves(name, past, call, EnumSet.allOf(Part.class));
  }

  /** A call, or several, leave these parts as they were. Each part has its own twins: to look may change them. */
  void leaves(String name, Calls past, Calls call, EnumSet<Part> parts) {
    for (Part part : parts) {
      EggScales called = new EggScales();
      EggScales other = new EggScales();
      past.on(called);
      past.on(other);
      call.on(called);
      List<Long> got = look(called, part);
      List<Long> want = look(other, part);
      due.isTrue(name + " leaves " + part + ": " + got + ", due is " + want, got.equals(want));
    }
  }

  private static List<Long> look(EggScales x, Part part) {
    List<Long> seen = new ArrayList<>();
    switch (part) {
      case FLOOR: seeFloor(x, seen); break;
      case UNDO: seeUndo(x, seen); break;
      case IMAGE_0: seeImage(x, 0, seen); break;
      case IMAGE_1: seeImage(x, 1, seen); break;
      case TESTS: seeTests(x, seen); break;
      case TEXT: seeText(x, seen); break;
      default: seen.add(x.trace()); break;
    }
    return seen;
  }

  private static void seeFloor(EggScales x, List<Long> seen) {
    seen.add((long) x.count(0));
    seen.add((long) x.count(1));
    for (int what = 0; what < 4; what++) {
      seen.add((long) x.now(what));
    }
    for (int s = 0; s < 5; s++) {
      for (int what = 0; what < 6; what++) {
        seen.add((long) x.scale(s, what));
      }
    }
    for (int e = 0; e < 6; e++) {
      for (int what = 0; what < 5; what++) {
        seen.add((long) x.egg(e, what));
      }
    }
  }

  /** What the steps back lead through, told shortly: an object is good for 512 calls. */
  private static void seeUndo(EggScales x, List<Long> seen) {
    int scales = x.count(0);
    int eggs = x.count(1);
    seen.add((long) x.now(4));
    for (int i = 0; i <= 10; i++) {
      seen.add((long) x.undo());
      for (int s = 0; s < scales; s++) {
        seen.add(x.scale(s, 0) * 10000L + x.scale(s, 3) * 10 + x.scale(s, 4));
      }
      for (int e = 0; e < eggs; e++) {
        seen.add(x.egg(e, 0) * 10L + x.egg(e, 2));
      }
    }
  }

  private static void seeImage(EggScales x, int image, List<Long> seen) {
    seen.add((long) x.back(image));
    seeFloor(x, seen);
    seen.add((long) x.now(4));
  }

  private static void seeTests(EggScales x, List<Long> seen) {
    seen.add((long) x.count(2));
    for (int what = 0; what < 3; what++) {
      seen.add((long) x.can(what));
    }
    seen.add((long) x.next());
    seen.add((long) x.forget());
  }

  private static void seeText(EggScales x, List<Long> seen) {
    seen.add((long) x.count(3));
    seen.add((long) x.barn());
    seen.add((long) x.count(3));
    seeFloor(x, seen);
    seen.add((long) x.clear());
  }
}
