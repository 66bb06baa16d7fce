import java.util.ArrayList;
import java.util.List;

/**
 * Two objects that were treated alike. A call on one of them that must change nothing (a refused one, one that only
 * asks) has to leave them alike: everything that later calls can tell of them is the same.
 */
final class Twin {
  interface Made { StandRank now(); }
  interface Call { long on(StandRank x); }

  private final StandRank x;
  private final boolean withFault;
  private final List<String> calls = new ArrayList<>();
  private final List<Long> answers = new ArrayList<>();

  private Twin(StandRank x, boolean withFault) {
    this.x = x;
    this.withFault = withFault;
  }

  /** A court in the middle of an evening, with all that a call could spoil: trays, an image, a tape, a fault. */
  static StandRank busy() {
    StandRank x = busyWithoutTape();
    Check.tell(x, "court;person strength 1;person 2;");
    Check.feed(x, "court;tune;office 5;person strength 33; ");
    return x;
  }

  static StandRank busyWithoutTape() {
    StandRank x = Check.told("court;person strength 9 mark 2;person strength 7;person strength 8 mark 5;person strength 6;"
      + "tune odds 2;tune odds 3;tires : 1 + tune + beside * who;pains : minute - who;office 30;office 20;office 10;");
    x.image(0);
    x.play(0);
    x.change(0, 2);
    x.sit(3);
    x.wine(1, 4);
    x.play(1);
    row(x, 0, 1, 0, 1, 0);
    row(x, 1, 2, 0, 120, 212, 10, 10);
    row(x, 2, 0, 1, 0);
    return x;
  }

  static void row(StandRank x, int tray, int sort, long... v) {
    x.numbers(tray, sort, v.length);
    for (int i = 0; i < v.length; i++) x.write(tray, i, v[i]);
  }

  /** The call answers so, and changes nothing. */
  static void leaves(String label, Made made, Call call, long want) {
    StandRank called = made.now();
    Check.due(label, call.on(called), want);
    same(label, called, made.now());
  }

  static void leaves(String label, Call call, long want) {
    leaves(label, Twin::busy, call, want);
  }

  static void same(String label, StandRank a, StandRank b) {
    compare(label, new Twin(a, true), new Twin(b, true));
  }

  /** Alike in all but what fault() tells. */
  static void sameButFault(String label, StandRank a, StandRank b) {
    compare(label, new Twin(a, false), new Twin(b, false));
  }

  private static void compare(String label, Twin a, Twin b) {
    a.probe();
    b.probe();
    int first = 0;
    while (first < a.answers.size() && first < b.answers.size() && a.answers.get(first).equals(b.answers.get(first))) first++;
    if (first < a.answers.size() && first < b.answers.size()) {
      Check.due(label + ": something has changed, then " + a.calls.get(first), a.answers.get(first), b.answers.get(first));
    } else {
      Check.due(label + ": so many answers alike", a.answers.size(), b.answers.size());
    }
  }

  private void note(String call, long answer) {
    calls.add(call);
    answers.add(answer);
  }

  private void probe() {
    if (withFault) for (int what = 0; what < 2; what++) note("fault(" + what + ")", x.fault(what));
    for (int what = 0; what <= 10; what++) note("count(" + what + ")", x.count(what));
    int people = x.count(0);
    for (int p = 0; p < people; p++) {
      for (int what = 0; what < 7; what++) note("person(" + p + ", " + what + ")", x.person(p, what));
      note("tires(" + p + ", 0)", x.tires(p, 0));
      note("alone(" + p + ")", x.alone(p));
    }
    for (int place = 0; place < 4; place++) note("office(" + place + ")", x.office(place));
    for (int t = 0; t < 4; t++) {
      for (int what = 0; what < 4; what++) note("judge(" + t + ", " + what + ")", x.judge(t, what));
      note("breakfast(" + t + ")", x.breakfast(t));
      note("sits(" + t + ")", x.sits(t));
    }
    note("row(0, 1)", x.row(0, 1));
    note("rests(0, 1, 0, 3)", x.rests(0, 1, 0, 3));
    note("chancellor(2)", x.chancellor(2));
    dig();
  }

  /** What only calls that change something bring to light. */
  private void dig() {
    for (int t = 0; t < 3; t++) {
      note("perform(" + t + ")", x.perform(t));
      look("perform");
    }
    for (int k = 0; k < 12; k++) {
      note("undo(1)", x.undo(1));
      look("undo");
    }
    for (int i = 0; i < 2; i++) {
      note("restore(" + i + ")", x.restore(i));
      look("restore");
    }
    for (int t = 0; t < 4; t++) {
      for (int i = 0; i < 7; i++) note("write(" + t + ", " + i + ", ..)", x.write(t, i, 0x123456789abcdefL));
    }
    note("court(count(9))", x.court(x.count(9)));
    look("court");
  }

  private void look(String behind) {
    for (int what = 3; what <= 9; what++) note(behind + ", count(" + what + ")", x.count(what));
    note(behind + ", spot(0)", x.spot(0));
    note(behind + ", person(0, 5)", x.person(0, 5));
    note(behind + ", person(1, 0)", x.person(1, 0));
    note(behind + ", person(3, 4)", x.person(3, 4));
    note(behind + ", office(0)", x.office(0));
  }
}
