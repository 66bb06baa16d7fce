import java.util.ArrayList;
import java.util.List;

/** Promises 9 to 17 (play, sit, change, wine, evening, undo, judge, perform, season) and the Terms of deeds: each bound. */
public final class DeedBoundsTest {
  private static final int LOW = Integer.MIN_VALUE;
  private static final int HIGH = Integer.MAX_VALUE;
  private static final String SIX = "court;" + "person strength 50;".repeat(6) + "tune;tune;tune;tune;";

  public static void main(String[] args) {
    playCodes();
    playAnswers();
    sitCodes();
    sitAnswers();
    changeCodes();
    changeAnswers();
    wineCodes();
    wineMost();
    eveningAnswers();
    eveningAll();
    undoCodes();
    undoTen();
    undoWhole();
    undoWhat();
    undoDidNone();
    deedsEach();
    deedsFar();
    judgeCodes();
    judgeAnswers();
    judgeSizes();
    performCodes();
    performTill();
    performMost();
    seasonTimes();
    seasonDraws();
    seasonSorts();
    seasonCannot();
    Check.end();
  }

  /** Promise 9: -11. */
  private static void playCodes() {
    for (int tunes = 0; tunes <= 4; tunes++) {
      String text = "court;person strength 9;" + "tune;".repeat(tunes);
      for (int t = 0; t < tunes; t++) Check.due("P9 of " + tunes + ", play(" + t + ")", Check.told(text).play(t), 0);
      for (int t : new int[] {LOW, -1, tunes, tunes + 1, HIGH}) {
        StandRank x = Check.told(text);
        Check.due("P9 of " + tunes + ", play(" + t + ")", x.play(t), -11);
        Check.due("P9 refused: no minute", x.count(5), 0);
        Check.due("P9 refused: nothing to undo", x.count(8), 0);
      }
    }
    Twin.leaves("P9 refused", x -> x.play(2), -11);
    Twin.leaves("P9 refused", x -> x.play(-1), -11);
  }

  /** Promise 9: how many SAT down, 0 to 6. */
  private static void playAnswers() {
    for (int n = 0; n <= 6; n++) {
      StandRank x = Check.told("court;" + "person strength 0;".repeat(n) + "person strength 1;".repeat(6 - n) + "tune;");
      Check.due("P9 " + n + " sat down", x.play(0), n);
      Check.due("P9 the others sat down", x.play(0), 6 - n);
      Check.due("P9 nobody sat down", x.play(0), 0);
      Check.due("P9 three minutes", x.count(5), 3);
      Check.due("P9 each can be undone", x.count(8), 3);
    }
    StandRank x = Check.told("court;person strength 0;person strength 0;tune;");
    x.sit(0);
    Check.due("P9 not who sat ahead", x.play(0), 1);
  }

  /** Promise 10: -11, -12. */
  private static void sitCodes() {
    for (int p : new int[] {LOW, -1, 4, 5, 6, HIGH}) Twin.leaves("P10 sit(" + p + ")", x -> x.sit(p), -11);
    Twin.leaves("P10 of its own it sits", x -> x.sit(3), -12);
    Twin.leaves("P10 in a minute it sat down", x -> x.sit(2), -12);
    Check.due("P10 the first", Check.told(SIX).sit(0), 5);
    Check.due("P10 the last", Check.told(SIX).sit(5), 5);
    Check.due("P10 above the last", Check.told(SIX).sit(6), -11);
  }

  /** Promise 10: its PLACE then, 5 to 0. */
  private static void sitAnswers() {
    StandRank x = Check.told(SIX);
    int[] order = {3, 0, 5, 1, 4, 2};
    for (int k = 0; k < 6; k++) {
      Check.due("P10 the place", x.sit(order[k]), 5 - k);
      Check.due("P10 strength stays", x.person(order[k], 0), 50);
      Check.due("P10 it sits", x.person(order[k], 2), 0);
      Check.due("P10 no minute", x.count(5), 0);
    }
    for (int k = 0; k < 6; k++) Check.due("P10 all sit", x.sit(k), -12);
    Check.due("P10 no deed by those", x.count(8), 6);
    x.evening();
    Check.due("P10 again", x.sit(3), 5);
  }

  /** Promise 11: -11: no such PERSON, both one. */
  private static void changeCodes() {
    for (int p : new int[] {LOW, -1, 4, 5, HIGH}) {
      Twin.leaves("P11 change(" + p + ", 0)", x -> x.change(p, 0), -11);
      Twin.leaves("P11 change(0, " + p + ")", x -> x.change(0, p), -11);
      Twin.leaves("P11 change(" + p + ", " + p + ")", x -> x.change(p, p), -11);
    }
    for (int p = 0; p < 4; p++) {
      int both = p;
      Twin.leaves("P11 both one: " + p, x -> x.change(both, both), -11);
    }
    StandRank x = Check.told(SIX);
    Check.due("P11 the last one", x.change(5, 0), 0);
    Check.due("P11 above the last one", x.change(6, 0), -11);
    Check.due("P11 above the last one", x.change(0, 6), -11);
  }

  /** Promise 11: the first one's SPOT then; one that SITS can CHANGE (why not 2 is to SIT, WINE). */
  private static void changeAnswers() {
    for (int p = 0; p < 6; p++) for (int q = 0; q < 6; q++) if (p != q) {
      StandRank x = Check.told(SIX);
      Check.due("P11 change(" + p + ", " + q + ")", x.change(p, q), q);
      for (int k = 0; k < 6; k++) Check.due("P11 spot(" + k + ")", x.spot(k), k == p ? q : k == q ? p : k);
      Check.due("P11 back", x.change(p, q), p);
    }
    StandRank x = Check.told(SIX);
    x.sit(0);
    Check.due("P11 the first one sits", x.change(0, 5), 5);
    Check.due("P11 the second one sits", x.change(5, 0), 5);
    x.sit(5);
    Check.due("P11 both sit", x.change(5, 0), 0);
    Check.due("P11 they still sit", x.count(3), 30);
    Check.due("P11 each is a deed", x.count(8), 5);
  }

  /** Promise 12: -11 (no such PERSON, WINE is 1 to 9), -12; -11 is told first. */
  private static void wineCodes() {
    for (int p : new int[] {LOW, -1, 4, 5, HIGH}) Twin.leaves("P12 wine(" + p + ", 1)", x -> x.wine(p, 1), -11);
    for (int n : new int[] {LOW, -1, 0, 10, 11, HIGH}) {
      Twin.leaves("P12 wine(0, " + n + ")", x -> x.wine(0, n), -11);
      Twin.leaves("P12 wine(3, " + n + "), which sits", x -> x.wine(3, n), -11);
    }
    for (int n = 1; n <= 9; n++) {
      int wine = n;
      Check.due("P12 wine(0, " + n + ")", Twin.busy().wine(0, n), 6 + n);
      Twin.leaves("P12 it sits, wine(3, " + n + ")", x -> x.wine(3, wine), -12);
      Twin.leaves("P12 it sat in a minute, wine(2, " + n + ")", x -> x.wine(2, wine), -12);
    }
    Check.due("P12 the last one", Check.told(SIX).wine(5, 1), 51);
    Check.due("P12 above the last one", Check.told(SIX).wine(6, 1), -11);
  }

  /** Terms, WINE: so much more, 99 at most. */
  private static void wineMost() {
    int[][] cases = {{89, 9, 98}, {90, 9, 99}, {91, 9, 99}, {97, 1, 98}, {98, 1, 99}, {99, 1, 99}, {99, 9, 99}, {98, 2, 99}, {0, 1, 1}, {0, 9, 9}};
    for (int[] c : cases) {
      StandRank x = Check.told("court;person strength " + c[0] + ";");
      Check.due("P12 " + c[0] + " and " + c[1], x.wine(0, c[1]), c[2]);
      Check.due("P12 the strength then", x.person(0, 0), c[2]);
      Check.due("P12 a deed", x.count(8), 1);
      x.undo(1);
      Check.due("P12 undone", x.person(0, 0), c[0]);
    }
  }

  /** Promise 13: how many MINUTES were played. */
  private static void eveningAnswers() {
    StandRank x = Check.told("court;person strength 0;tune;");
    Check.due("P13 none", x.evening(), 0);
    Check.due("P13 it can be undone all the same", x.count(8), 1);
    x.play(0);
    Check.due("P13 one", x.evening(), 1);
    Check.due("P13 none again", x.evening(), 0);
    Twin.row(x, 0, 0, new long[40]);
    for (int k = 0; k < 3; k++) x.perform(0);
    Check.due("P13 more than 99", x.evening(), 120);
    x = new StandRank();
    Check.due("P13 without a court", x.evening(), 0);
    Check.due("P13 without a court: can be undone", x.count(8), 1);
  }

  /** Terms, EVENING: all STAND again, with STRENGTHS as the text told, PAIN 0, no MINUTE was played (SPOTS stay). */
  private static void eveningAll() {
    StandRank x = Twin.busy();
    Check.due("P13 evening()", x.evening(), 2);
    int[][] want = {{9, 2, 1, 2, 0, 0, -1}, {7, 0, 1, 1, 1, 0, -1}, {8, 5, 1, 0, 2, 0, -1}, {6, 0, 1, 3, 3, 0, -1}};
    for (int p = 0; p < 4; p++) for (int what = 0; what < 7; what++) Check.due("P13 person(" + p + ", " + what + ")", x.person(p, what), want[p][what]);
    int[] spots = {2, 1, 0, 3};
    for (int k = 0; k < 4; k++) Check.due("P13 spots stay", x.spot(k), spots[k]);
    Check.due("P13 no minute", x.count(5), 0);
    Check.due("P13 all stand", x.count(3), 15);
    Check.due("P13 strengths", x.count(6), 30);
    Check.due("P13 the calls ahead can be undone still", x.count(8), 6);
    Check.due("P13 the fault stays", x.fault(0), 2);
    Check.due("P13 the tape stays", x.count(9), 40);
  }

  /** Promise 14: n 1 to 10; -3: n, more than can be. */
  private static void undoCodes() {
    for (int n : new int[] {LOW, -1, 0, 6, 7, 10, 11, HIGH}) Twin.leaves("P14 undo(" + n + ") of 5", x -> x.undo(n), -3);
    for (int n = 1; n <= 5; n++) Check.due("P14 undo(" + n + ") of 5", Twin.busy().undo(n), 5 - n);
    for (int held = 0; held <= 10; held++) {
      for (int n = -1; n <= 12; n++) {
        StandRank x = Check.told("court;person strength 10;");
        for (int k = 0; k < held; k++) x.wine(0, 1);
        Check.due("P14 undo(" + n + ") of " + held, x.undo(n), n < 1 || n > held ? -3 : held - n);
        Check.due("P14 strength by undo(" + n + ") of " + held, x.person(0, 0), n < 1 || n > held ? 10 + held : 10 + held - n);
        Check.due("P14 still can be", x.count(8), n < 1 || n > held ? held : held - n);
      }
    }
  }

  /** Terms, UNDONE: 10 at most (eldest are forgotten), the latest first. */
  private static void undoTen() {
    for (int calls = 8; calls <= 24; calls++) {
      StandRank x = Check.told("court;person strength 10;");
      for (int k = 1; k <= calls; k++) {
        x.wine(0, 1);
        Check.due("P14 behind " + k + " calls", x.count(8), Math.min(k, 10));
      }
      Check.due("P14 more than ten", x.undo(11), -3);
      int held = Math.min(calls, 10);
      for (int k = 1; k <= held; k++) {
        Check.due("P14 the latest first", x.undo(1), held - k);
        Check.due("P14 strength", x.person(0, 0), 10 + calls - k);
      }
      Check.due("P14 eldest are forgotten", x.undo(1), -3);
      Check.due("P14 strength", x.person(0, 0), 10 + calls - held);
      x.wine(0, 5);
      Check.due("P14 one more can be", x.count(8), 1);
      Check.due("P14 undone again", x.undo(1), 0);
      Check.due("P14 strength", x.person(0, 0), 10 + calls - held);
    }
    StandRank x = Check.told("court;person strength 10;");
    for (int k = 0; k < 12; k++) x.wine(0, 1);
    Check.due("P14 ten at once", x.undo(10), 0);
    Check.due("P14 two are left", x.person(0, 0), 12);
    for (int k = 0; k < 12; k++) x.wine(0, 1);
    Check.due("P14 three of ten", x.undo(3), 7);
    for (int k = 0; k < 5; k++) x.wine(0, 2);
    Check.due("P14 ten again", x.count(8), 10);
    Check.due("P14 ten at once", x.undo(10), 0);
    Check.due("P14 strength", x.person(0, 0), 21 - 5);
  }

  /** Terms, UNDONE: each as a whole, whichever call did it. */
  private static void undoWhole() {
    Twin.Call[] deeds = {x -> x.play(0), x -> x.play(1), x -> x.sit(0), x -> x.sit(1), x -> x.change(0, 1), x -> x.change(3, 2), x -> x.wine(0, 9),
      x -> x.wine(1, 1), x -> x.evening(), x -> x.perform(0), x -> x.perform(1), x -> x.season(5, 40), x -> x.season(77, 9)};
    for (int k = 0; k < deeds.length; k++) {
      StandRank x = Twin.busy();
      deeds[k].on(x);
      Check.due("P14 deed " + k + " can be undone", x.count(8), 6);
      Check.due("P14 deed " + k + " undone", x.undo(1), 5);
      Twin.same("P14 deed " + k + " undone", x, Twin.busy());
    }
    StandRank x = Twin.busy();
    for (int k = 0; k < 5; k++) deeds[k + 4].on(x);
    Check.due("P14 five more", x.count(8), 10);
    Check.due("P14 five at once", x.undo(5), 5);
    Twin.same("P14 five at once", x, Twin.busy());
  }

  /** Terms, UNDONE: all but the text; calls that did no DEEDS stay. */
  private static void undoWhat() {
    StandRank x = Check.told("court;person strength 10;person strength 8;tune;");
    x.play(0);
    Twin.row(x, 0, 2, 0, 0);
    x.image(1);
    Check.feed(x, "court;");
    x.sit(0);
    x.write(0, 1, 10);
    Check.due("P14 two calls", x.undo(2), 0);
    Check.due("P14 strength", x.person(0, 0), 10);
    Check.due("P14 the tape stays", x.count(9), 20);
    Check.due("P14 a written number stays", x.judge(0, 2), 2);
    Check.due("P14 the image stays", x.restore(1), 0);
    Check.due("P14 the image stays", x.person(0, 0), 9);
    Check.feed(x, "person strength 3;");
    Check.due("P14 another text", x.court(40), 2);
    Check.due("P14 a text can't be undone", x.undo(1), -3);
    Check.due("P14 a text can't be undone", x.person(0, 0), 3);
  }

  /** Terms, UNDONE: calls that did some; those that did none, refused ones, those that ask don't count. */
  private static void undoDidNone() {
    StandRank x = Twin.busy();
    Twin.row(x, 0, 1);
    Check.due("P14 perform() of no deeds", x.perform(0), 0);
    Twin.row(x, 0, 1, 99, 0);
    Check.due("P14 perform() whose first can't be", x.perform(0), 0);
    x.play(9);
    x.sit(9);
    x.change(1, 1);
    x.wine(0, 0);
    x.undo(0);
    x.season(1, 0);
    x.judge(0, 0);
    x.image(1);
    Check.due("P14 as many as ahead", x.count(8), 5);
    Twin.row(x, 0, 1, 0, 99);
    Check.due("P14 perform() of one", x.perform(0), 1);
    Check.due("P14 one more", x.count(8), 6);
    x = new StandRank();
    // by seed 1 the first DRAW asks for a minute of TUNE 2
    Check.due("P14 season() that did none", x.season(1, 1), 0);
    Check.due("P14 nothing to undo", x.count(8), 0);
    x = Check.told("court;person strength 5;tune;tune;tune;");
    Check.due("P14 season() that did one", x.season(1, 1), 1);
    Check.due("P14 one to undo", x.count(8), 1);
  }

  /** Why a deed can't be, by the Terms alone; 0: it can be. */
  private static int why(long v, int people, int tunes, int sits) {
    if (v == -1) return 0;
    if (v >= 0 && v <= 9) return v < tunes ? 0 : 1;
    if (v >= 10 && v <= 19) return v - 10 >= people ? 1 : v - 10 == sits ? 2 : 0;
    if (v >= 100 && v <= 199) {
      long p = (v - 100) / 10;
      long q = v % 10;
      return p < people && q < people && p != q ? 0 : 1;
    }
    if (v >= 200 && v <= 299) {
      long p = (v - 200) / 10;
      return p >= people || v % 10 == 0 ? 1 : p == sits ? 2 : 0;
    }
    return 1;
  }

  /** Terms, DEEDS: every number from -10 to 330, on courts of all sizes. */
  private static void deedsEach() {
    for (int people = 0; people <= 6; people++) for (int tunes : new int[] {0, 1, 4}) {
      String text = "court;" + "person strength 50;".repeat(people) + "tune;".repeat(tunes);
      int sits = people - 1;
      for (int from = -10; from < 331; from += 100) {
        StandRank x = Check.told(text);
        if (people > 0) x.sit(sits);
        x.numbers(0, 1, 1);
        for (int v = from; v < from + 100 && v <= 330; v++) {
          int want = why(v, people, tunes, sits);
          String label = "Terms, DEEDS: " + v + " of " + people + " people, " + tunes + " tunes, ";
          x.write(0, 0, v);
          Check.due(label + "where", x.judge(0, 0), want == 0 ? -1 : 0);
          Check.due(label + "why", x.judge(0, 1), want);
        }
      }
    }
    StandRank x = Check.told(SIX + "tires : tune;");
    Twin.row(x, 0, 1, 3, 10, 105, 219, 251, -1, 2, 13, 154, 239);
    Check.due("Terms, DEEDS: a sitting one's wine, why", x.judge(0, 1), 2);
    Check.due("Terms, DEEDS: where", x.judge(0, 0), 9);
    Check.due("Terms, DEEDS: done", x.perform(0), 9);
    int[] spots = {4, 1, 2, 3, 5, 0};
    for (int k = 0; k < 6; k++) Check.due("Terms, DEEDS: 105, 154 change spots", x.spot(k), spots[k]);
    Check.due("Terms, DEEDS: 13 sits", x.count(3), 63 - 8);
    Check.due("Terms, DEEDS: -1, 2: one minute", x.count(5), 1);
    Check.due("Terms, DEEDS: of tune 2", x.person(0, 0), 48);
    Twin.row(x, 0, 1, 209, 251);
    x.perform(0);
    Check.due("Terms, DEEDS: 209", x.person(0, 0), 57);
    Check.due("Terms, DEEDS: 251", x.person(5, 0), 49);
  }

  /** Terms, DEEDS: others: 1, however far. */
  private static void deedsFar() {
    long[] far = {-2, -3, -11, 300, 301, 1L << 31, 1L << 32, (1L << 32) + 1, -1L << 32, (1L << 32) - 1, Long.MIN_VALUE, Long.MAX_VALUE, (1L << 33) + 10};
    for (long v : far) {
      StandRank x = Check.told(SIX);
      Check.tray(x, 0, 0, v, 0);
      Check.due("Terms, DEEDS: " + v + " where", x.judge(0, 0), 1);
      Check.due("Terms, DEEDS: " + v + " why", x.judge(0, 1), 1);
      Check.due("Terms, DEEDS: " + v + " done", x.perform(0), 1);
      Check.due("Terms, DEEDS: " + v + " minutes", x.count(5), 1);
    }
  }

  /** Promise 15: -2: the TRAY, what; -6. */
  private static void judgeCodes() {
    for (int t : new int[] {LOW, -1, 4, 5, HIGH}) {
      Twin.leaves("P15 judge(" + t + ", 0)", x -> x.judge(t, 0), -2);
      Twin.leaves("P15 judge(" + t + ", 4)", x -> x.judge(t, 4), -2);
    }
    for (int what : new int[] {LOW, -1, 4, 5, HIGH}) {
      Twin.leaves("P15 judge(0, " + what + ")", x -> x.judge(0, what), -2);
      Twin.leaves("P15 what is told ahead of missing, " + what, x -> x.judge(3, what), -2);
    }
    for (int what = 0; what <= 3; what++) {
      int asked = what;
      Twin.leaves("P15 missing, what " + what, x -> x.judge(3, asked), -6);
    }
    // 0 1 2 3 sat: in tray 1 a minute of tune 0, a change, wine to 1, 0 sits down, and again
    int[] want = {4, 2, 2, 1};
    for (int what = 0; what <= 3; what++) {
      int asked = what;
      Twin.leaves("P15 as if done, what " + what, x -> x.judge(1, asked), want[what]);
    }
  }

  private static void judged(String label, StandRank x, int... want) {
    for (int what = 0; what < 4; what++) Check.due(label + ", what " + what, x.judge(0, what), want[what]);
  }

  /** Promise 15: the first place that can't be (NONE), why (0), who STANDS then, who has PLACE 0 then (NONE: no PEOPLE). */
  private static void judgeAnswers() {
    StandRank x = Check.told(SIX);
    Check.tray(x, 0);
    judged("P15 no deeds", x, -1, 0, 63, 0);
    Check.tray(x, 0, 4);
    judged("P15 the first can't be", x, 0, 1, 63, 0);
    Check.tray(x, 0, 10, 11, 10, 99);
    judged("P15 the first of two that can't be", x, 2, 2, 60, 2);
    Check.tray(x, 0, 10, 11, 12, 13, 14, 15);
    judged("P15 all sit", x, -1, 0, 0, 5);
    Check.tray(x, 0, 15, 14, 13, 12, 11, 10);
    judged("P15 all sit", x, -1, 0, 0, 0);
    Check.tray(x, 0, 10, 99, 11);
    judged("P15 nothing behind the first that can't be", x, 1, 1, 62, 1);
    Check.tray(x, 0, 10, 10);
    judged("P15 by deeds ahead of it", x, 1, 2, 62, 1);
    Check.tray(x, 0, 10, -1, 10);
    judged("P15 by deeds ahead of it", x, -1, 0, 62, 1);
    x.sit(0);
    Check.tray(x, 0);
    judged("P15 from now on", x, -1, 0, 62, 1);
    x = new StandRank();
    Check.tray(x, 0, -1);
    judged("P15 no people", x, -1, 0, 0, -1);
    Check.tray(x, 0, -1, 0);
    judged("P15 no people", x, 1, 1, 0, -1);
    x = Check.told("court;person strength 0;tune;");
    Check.tray(x, 0, 0);
    judged("P15 one person", x, -1, 0, 0, 0);
  }

  /** Promise 15: of 0 to 40 DEEDS. */
  private static void judgeSizes() {
    StandRank x = Check.told("court;person strength 99;tune;");
    for (int n : new int[] {0, 1, 30, 31, 39, 40}) {
      x.numbers(0, 1, n);
      Check.due("P15 of " + n, x.judge(0, 0), -1);
      if (n > 0) {
        x.write(0, n - 1, 1);
        Check.due("P15 the last of " + n, x.judge(0, 0), n - 1);
        Check.due("P15 the last of " + n + ", why", x.judge(0, 1), 1);
      }
    }
  }

  /** Promise 16: -2; -6. */
  private static void performCodes() {
    for (int t : new int[] {LOW, -1, 4, 5, HIGH}) Twin.leaves("P16 perform(" + t + ")", x -> x.perform(t), -2);
    Twin.leaves("P16 missing", x -> x.perform(3), -6);
    for (int t = 0; t < 4; t++) {
      StandRank x = Check.told(SIX);
      Check.tray(x, t, 10);
      Check.due("P16 perform(" + t + ")", x.perform(t), 1);
      Check.due("P16 it sits", x.count(3), 62);
    }
  }

  /** Promise 16: they are done, till one can't be: how many. */
  private static void performTill() {
    StandRank x = Twin.busy();
    Check.due("P16 four of five", x.perform(1), 4);
    Check.due("P16 minutes", x.count(5), 3);
    Check.due("P16 who stands", x.count(3), 2);
    Check.due("P16 one call", x.count(8), 6);
    Check.due("P16 again: its minute, its change", x.perform(1), 3);
    Check.due("P16 undone", x.undo(2), 5);
    Twin.same("P16 undone", x, Twin.busy());
    Twin.leaves("P16 none can be", () -> {
      StandRank y = Twin.busy();
      Twin.row(y, 1, 2, 99, 0);
      return y;
    }, y -> y.perform(1), 0);
    Twin.leaves("P16 there are none", () -> {
      StandRank y = Twin.busy();
      y.numbers(1, 2, 0);
      return y;
    }, y -> y.perform(1), 0);
    x = Check.told(SIX);
    Check.tray(x, 0, 10, 99, 11);
    Check.due("P16 nothing behind one that can't be", x.perform(0), 1);
    Check.due("P16 nothing behind one that can't be", x.count(3), 62);
  }

  /** Promise 16: up to 40. */
  private static void performMost() {
    for (int n : new int[] {0, 1, 39, 40}) {
      StandRank x = Check.told("court;person strength 99;tune;");
      x.numbers(0, 0, n);
      Check.due("P16 of " + n, x.perform(0), n);
      Check.due("P16 minutes of " + n, x.count(5), n);
      Check.due("P16 one call or none", x.count(8), n == 0 ? 0 : 1);
    }
  }

  /** Promise 17: -3: how many times (1 to 40). */
  private static void seasonTimes() {
    for (int times : new int[] {LOW, -1, 0, 41, 42, HIGH}) {
      Twin.leaves("P17 season(1, " + times + ")", x -> x.season(1, times), -3);
      Twin.leaves("P17 season(0, " + times + ")", x -> x.season(0, times), -3);
    }
    for (int seed : new int[] {LOW, -1, 0, 1, 12345, HIGH}) for (int times : new int[] {1, 2, 39, 40}) {
      StandRank x = Check.told(SIX);
      StandRank y = Check.told(SIX);
      Check.due("P17 season(" + seed + ", " + times + ")", x.season(seed, times), byHand(y, seed, times).size());
      for (int p = 0; p < 6; p++) for (int what = 0; what < 7; what++) Check.due("P17 person(" + p + ", " + what + ")", x.person(p, what), y.person(p, what));
      Check.due("P17 minutes", x.count(5), y.count(5));
    }
  }

  /** What could be of a season, each as a call of its own. */
  private static List<Integer> byHand(StandRank y, int seed, int times) {
    List<Integer> done = new ArrayList<>();
    long[] x = {seed & 0xffffffffL};
    for (int k = 0; k < times; k++) {
      int sort = draw(x, 6);
      int code;
      if (sort <= 2) code = y.play(draw(x, 4));
      else if (sort == 3) code = y.sit(draw(x, 6));
      else if (sort == 4) {
        int first = draw(x, 6);
        code = y.change(first, draw(x, 6));
      } else code = y.evening();
      if (code >= 0) done.add(sort);
    }
    return done;
  }

  private static int draw(long[] x, int by) {
    x[0] = (x[0] * 1103515245L + 12345L) % 4294967296L;
    return (int) (x[0] / 65536 % by);
  }

  /** Terms, SEASON: a DRAW is x >>> 16, never below 0; by which seeds what is drawn first. */
  private static void seasonDraws() {
    int[] seen = new int[6];
    for (int seed = -300; seed <= 300; seed++) {
      StandRank x = Check.told(SIX + "tires : 1 + tune;");
      StandRank y = Check.told(SIX + "tires : 1 + tune;");
      List<Integer> done = byHand(y, seed * 7919, 3);
      for (int sort : done) seen[sort]++;
      Check.due("P17 season by " + seed * 7919, x.season(seed * 7919, 3), done.size());
      for (int p = 0; p < 6; p++) {
        Check.due("P17 strength by " + seed * 7919, x.person(p, 0), y.person(p, 0));
        Check.due("P17 stands by " + seed * 7919, x.person(p, 2), y.person(p, 2));
        Check.due("P17 spot by " + seed * 7919, x.person(p, 3), y.person(p, 3));
      }
    }
    for (int sort = 0; sort < 6; sort++) Check.due("P17 each sort was drawn: " + sort, seen[sort] > 20 ? 1 : 0, 1);
  }

  /** Terms, SEASON: DRAW modulo 6 is 0 to 5: which deed. */
  private static void seasonSorts() {
    for (int sort = 0; sort < 6; sort++) {
      int seed = 0;
      while (draw(new long[] {seed}, 6) != sort) seed++;
      long[] x = {seed};
      draw(x, 6);
      StandRank y = Check.told(SIX);
      y.play(0);
      y.sit(0);
      y.season(seed, 1);
      Check.due("P17 sort " + sort + ": minutes", y.count(5), sort <= 2 ? 2 : sort == 5 ? 0 : 1);
      int sat = sort == 3 ? draw(x, 6) : 0;
      Check.due("P17 sort " + sort + ": who stands", y.count(3), sort == 5 ? 63 : 63 & ~1 & ~(1 << sat));
    }
  }

  /** Terms, SEASON: as in a TRAY, if it can be; promise 17: how many could be. */
  private static void seasonCannot() {
    StandRank x = new StandRank();
    StandRank y = new StandRank();
    Check.due("P17 without a court", x.season(3, 40), byHand(y, 3, 40).size());
    Check.due("P17 only evenings could be", x.count(8), y.count(8) > 0 ? 1 : 0);
    for (int seed = 0; seed < 60; seed++) {
      String two = "court;person strength 3;person strength 2;tune;";
      x = Check.told(two);
      y = Check.told(two);
      int done = byHand(y, seed, 40).size();
      Check.due("P17 of two people by " + seed, x.season(seed, 40), done);
      Check.due("P17 strengths by " + seed, x.count(6), y.count(6));
      Check.due("P17 pain by " + seed, x.person(0, 5), y.person(0, 5));
      Check.due("P17 place by " + seed, x.person(0, 4), y.person(0, 4));
      Check.due("P17 as a whole", x.count(8), done > 0 ? 1 : 0);
      if (done > 0) Check.due("P17 undone", x.undo(1), 0);
      Check.due("P17 undone: strengths", x.count(6), 5);
    }
  }
}
