/** Promises 1 to 8 (a new object, feed, court, fault, person, tires, office, spot): each code, least and most. */
public final class CourtBoundsTest {
  private static final int LOW = Integer.MIN_VALUE;
  private static final int HIGH = Integer.MAX_VALUE;
  private static final String SIX = "court;" + "person strength 50 mark 3;".repeat(6) + "tune;tune;tune;tune;office 9;";

  public static void main(String[] args) {
    constants();
    newObject();
    feedBytes();
    feedFull();
    courtN();
    courtTape();
    courtLines();
    courtAnew();
    courtFault();
    courtFaultCodes();
    faultWhat();
    faultLatest();
    personWho();
    personWhat();
    personSat();
    personPlaces();
    tiresCodes();
    tiresSits();
    officePlaces();
    spots();
    Check.end();
  }

  /** The constants: NONE = -1. */
  private static void constants() {
    Check.due("Face: NONE", StandRank.NONE, -1);
  }

  /** Promise 1: no PEOPLE, no TUNES, no OFFICES; Terms: TRAYS are MISSING, no IMAGES at first. */
  private static void newObject() {
    StandRank x = new StandRank();
    for (int what = 0; what <= 10; what++) Check.due("P1 count(" + what + ")", x.count(what), 0);
    for (int p = -1; p <= 6; p++) {
      Check.due("P1 nobody", x.person(p, 0), -99000002);
      Check.due("P1 nobody to tire", x.tires(p, 0), -2);
      Check.due("P1 no spot", x.spot(p), -2);
      Check.due("P1 nobody to sit", x.sit(p), -11);
      Check.due("P1 nobody to change", x.change(p, 0), -11);
      Check.due("P1 nobody to be given wine", x.wine(p, 1), -11);
      Check.due("P1 no tune", x.play(p), -11);
      Check.due("P1 nobody alone", x.alone(p), -2);
    }
    for (int place = 0; place < 6; place++) Check.due("P1 no office", x.office(place), 0);
    for (int t = 0; t < 4; t++) {
      Check.due("P1 tray " + t + " is missing", x.judge(t, 0), -6);
      Check.due("P1 tray " + t + " is missing", x.write(t, 0, 1), -6);
    }
    for (int i = 0; i < 2; i++) Check.due("P1 no image", x.restore(i), -5);
    Check.due("P1 nothing to undo", x.undo(1), -3);
    Check.due("P1 no fault", x.fault(0), 0);
    Check.due("P1 no place", x.fault(1), -1);
    Check.due("P1 nobody is the last", x.chancellor(0), -1);
    Check.due("P1 no minute", x.evening(), 0);
  }

  /** Promise 2: twenty bytes, the highest of each int first, behind those on the tape. */
  private static void feedBytes() {
    StandRank x = new StandRank();
    Check.due("P2 twenty", x.feed(0x636f7572, 0x743b7475, 0x6e653b6f, 0x66666963, 0x65203837), 20);
    Check.due("P2 on the tape", x.count(9), 20);
    Check.due("P2 behind those", x.feed(0x3b3f3f3f, 0x3f3f3f3f, -1, LOW, HIGH), 40);
    Check.due("P2 on the tape", x.count(9), 40);
    // court;tune;office 87;
    Check.due("P2 the highest first", x.court(21), 3);
    Check.due("P2 the last byte of twenty, the first of the next", x.office(0), 87);
    Check.due("P2 a byte above 127", x.feed(0x636f7572, 0x743bff20, 0, 0, 0), 20);
    Check.due("P2 a byte above 127", x.court(7), -31);
    Check.due("P2 a byte above 127", x.fault(1), 6);
  }

  /** Promise 2: -5: it would have more than 900. */
  private static void feedFull() {
    StandRank x = new StandRank();
    for (int k = 1; k <= 43; k++) x.feed(0x20202020, 0x20202020, 0x20202020, 0x20202020, 0x20202020);
    Check.due("P2 860", x.count(9), 860);
    Check.due("P2 880", x.feed(0x20202020, 0x20202020, 0x20202020, 0x20202020, 0x20202020), 880);
    Check.due("P2 900", x.feed(0x20202020, 0x20202020, 0x20202020, 0x20202020, 0x2020203f), 900);
    for (int k = 0; k < 2; k++) Check.due("P2 920", x.feed(0, 0, 0, 0, 0), -5);
    Check.due("P2 refused: as many", x.count(9), 900);
    Check.due("P2 refused: the same bytes", x.court(900), -31);
    Check.due("P2 refused: the same bytes", x.fault(1), 899);
    Check.due("P2 empty then", x.feed(0, 0, 0, 0, 0), 20);
    Twin.leaves("P2 refused", () -> {
      StandRank y = Twin.busy();
      for (int k = 0; k < 43; k++) y.feed(0, 0, 0, 0, 0);
      return y;
    }, y -> y.feed(1, 2, 3, 4, 5), -5);
  }

  /** Promise 3: -3: n is below 0 or above what there is (THE TAPE stays). */
  private static void courtN() {
    for (int n : new int[] {-1, LOW, 41, HIGH}) Twin.leaves("P3 court(" + n + ")", x -> x.court(n), -3);
    StandRank x = new StandRank();
    Check.due("P3 of nothing: 1", x.court(1), -3);
    Check.due("P3 of nothing: -1", x.court(-1), -3);
    Check.due("P3 not read", x.fault(0), 0);
    Check.due("P3 of nothing: 0", x.court(0), -32);
    Check.due("P3 it was read", x.fault(0), 2);
    Check.due("P3 at 0", x.fault(1), 0);
    Check.feed(x, "court;");
    Check.due("P3 one above", x.court(21), -3);
    Check.due("P3 stays", x.count(9), 20);
    Check.due("P3 all there is", x.court(20), 1);
  }

  /** Promise 3: the first n bytes; the tape is empty then, with a FAULT, too. */
  private static void courtTape() {
    StandRank x = new StandRank();
    Check.feed(x, "court;tune;tune;tune;");
    Check.due("P3 the first 11", x.court(11), 2);
    Check.due("P3 one tune", x.count(1), 1);
    Check.due("P3 the tape is empty", x.count(9), 0);
    Check.due("P3 nothing is left of it", x.court(1), -3);
    Check.feed(x, "court;tune");
    Check.due("P3 a fault", x.court(10), -32);
    Check.due("P3 the tape is empty with a fault", x.count(9), 0);
    Check.due("P3 fed anew", Check.feed(x, "court;"), 20);
    Check.due("P3 from its first byte on", x.court(6), 1);
    Check.feed(x, "court;tune;");
    Check.due("P3 court(0) with a tape", x.court(0), -32);
    Check.due("P3 empties it", x.count(9), 0);
    Check.due("P3 court(0): at 0", x.fault(1), 0);
  }

  /** Promise 3: how many LINES (court, too). */
  private static void courtLines() {
    StringBuilder s = new StringBuilder("court;");
    String[] lines = {"person strength 1;", "tune;", "office 1;", "tires : 1;", "pains : 1;", "tires : 2;", "person strength 2;"};
    Check.fine("P3 court alone", s.toString(), 1);
    for (int k = 0; k < lines.length; k++) {
      s.append(lines[k]);
      StandRank x = new StandRank();
      Check.due("P3 lines of " + s, Check.tell(x, s.toString()), k + 2);
      Check.due("P44 lines of " + s, x.count(10), k + 2);
    }
    // 6 and 89 times 10 bytes
    StandRank x = new StandRank();
    Check.due("P3 most lines", Check.tell(x, "court;" + "tires : 1;".repeat(89)), 90);
    Check.due("P3 most lines, without blanks", Check.tell(x, "court;" + "tires:1;".repeat(111)), 112);
  }

  /** Promise 3: it is EVENING, SPOTS are by numbers, nothing can be UNDONE. */
  private static void courtAnew() {
    StandRank x = Twin.busyWithoutTape();
    Check.due("P3 lines", Check.tell(x, "court;person strength 4;person strength 3;person strength 2;tune;"), 5);
    int[][] want = {{4, 0, 1, 0, 0, 0, -1}, {3, 0, 1, 1, 1, 0, -1}, {2, 0, 1, 2, 2, 0, -1}};
    for (int p = 0; p < 3; p++) {
      for (int what = 0; what < 7; what++) Check.due("P3 evening, person(" + p + ", " + what + ")", x.person(p, what), want[p][what]);
      Check.due("P3 spots by numbers", x.spot(p), p);
    }
    Check.due("P3 no fourth person", x.person(3, 0), -99000002);
    Check.due("P3 no minute was played", x.count(5), 0);
    Check.due("P3 nothing can be undone", x.count(8), 0);
    Check.due("P3 nothing can be undone", x.undo(1), -3);
    Check.due("P3 no offices", x.office(0), 0);
    Check.due("P3 no laws", x.tires(2, 0), 1);
    Check.due("P3 one tune", x.count(1), 1);
    Check.due("P3 odds", x.count(7), 1);
    Check.due("P3 trays stay", x.write(1, 4, 1L << 31), (int) (1L << 31));
    Check.due("P3 images stay", x.restore(0), 0);
    Check.due("P3 images stay", x.count(0), 4);
    // the same text again
    x = Check.told("court;person strength 4;person strength 3;tune;");
    x.play(0);
    x.change(0, 1);
    Check.due("P3 the same text", Check.tell(x, "court;person strength 4;person strength 3;tune;"), 4);
    Check.due("P3 it is evening", x.person(0, 0), 4);
    Check.due("P3 spots by numbers", x.spot(0), 0);
    Check.due("P3 nothing can be undone", x.count(8), 0);
  }

  /** Promise 3: all stays with a FAULT. */
  private static void courtFault() {
    String head = "court;person strength 1;tune;office 99;tires : 9;pains : 9;";
    String[] texts = {head + "?", head + "tune tune;", head + "office 100;", "court;" + "tune;".repeat(5), "", "tune;"};
    int[] faults = {1, 2, 3, 4, 2, 2};
    int[] places = {head.length(), head.length() + 5, head.length() + 7, 26, 0, 0};
    for (int k = 0; k < texts.length; k++) {
      StandRank x = Twin.busyWithoutTape();
      Check.due("P3 a fault of " + texts[k], Check.tell(x, texts[k]), -30 - faults[k]);
      Check.due("P3 its place", x.fault(1), places[k]);
      Twin.sameButFault("P3 all stays with a fault of <" + texts[k] + ">", x, Twin.busyWithoutTape());
    }
  }

  /** Promise 3: -30 less the FAULT. */
  private static void courtFaultCodes() {
    StandRank x = new StandRank();
    Check.due("P3 fault 1", Check.tell(x, "court;?"), -31);
    Check.due("P3 fault 2", Check.tell(x, "court;;"), -32);
    Check.due("P3 fault 3", Check.tell(x, "court;office 100;"), -33);
    Check.due("P3 fault 4", Check.tell(x, "court;" + "tune;".repeat(5)), -34);
    Check.due("P3 a fault's people don't count", Check.tell(x, "court;" + "person strength 1;".repeat(6) + "person"), -34);
    Check.due("P3 a fault's people don't count", Check.tell(x, "court;" + "person strength 1;".repeat(6)), 7);
    Check.due("P3 no fault any more", x.fault(0), 0);
  }

  /** Promise 4: what 0, 1; NONE for others. */
  private static void faultWhat() {
    StandRank x = new StandRank();
    for (int k = 0; k < 3; k++) {
      for (int what : new int[] {-1, 2, LOW, HIGH}) Check.due("P4 fault(" + what + ")", x.fault(what), -1);
      Check.tell(x, k == 0 ? "court;?" : "court;");
    }
    x = new StandRank();
    Check.due("P4 without a court(): 0", x.fault(0), 0);
    Check.due("P4 without a court(): NONE", x.fault(1), -1);
    Check.tell(x, "court;");
    Check.due("P4 no fault: 0", x.fault(0), 0);
    Check.due("P4 no fault: NONE", x.fault(1), -1);
    Check.tell(x, "?");
    Check.due("P4 a fault", x.fault(0), 1);
    Check.due("P4 its place, 0", x.fault(1), 0);
    Check.tell(x, "court;" + " ".repeat(893) + "?");
    Check.due("P4 its place, 899", x.fault(1), 899);
    Check.tell(x, " ".repeat(900));
    Check.due("P4 its place, 900", x.fault(1), 900);
  }

  /** Promise 4: of the latest court() that was read. */
  private static void faultLatest() {
    StandRank x = new StandRank();
    Check.tell(x, "court;office 100;");
    Check.due("P4 first", x.fault(0), 3);
    x.court(1);
    x.court(-1);
    Check.due("P4 -3: not read", x.fault(0), 3);
    Check.due("P4 -3: not read", x.fault(1), 13);
    Check.tell(x, "court;;");
    Check.due("P4 another fault", x.fault(0), 2);
    Check.due("P4 another fault", x.fault(1), 6);
    Check.tell(x, "court;");
    Check.due("P4 none any more", x.fault(0), 0);
    Check.due("P4 none any more", x.fault(1), -1);
    x.court(1);
    Check.due("P4 -3: still none", x.fault(0), 0);
    Check.due("P4 -3: still none", x.fault(1), -1);
    Check.tell(x, "tune;");
    x.image(0);
    x.restore(0);
    Check.due("P4 restore() is no court()", x.fault(0), 2);
    Check.due("P4 restore() is no court()", x.fault(1), 0);
  }

  /** Promise 5: -99000002. */
  private static void personWho() {
    for (int n = 0; n <= 6; n++) {
      StandRank x = Check.told("court;" + "person strength 5;".repeat(n));
      for (int p : new int[] {LOW, -1, n, n + 1, 6, 31, 32, HIGH}) {
        if (p < 0 || p >= n) for (int what = 0; what < 7; what++) Check.due("P5 of " + n + ", person(" + p + ", " + what + ")", x.person(p, what), -99000002);
      }
      for (int p = 0; p < n; p++) Check.due("P5 of " + n + ", person(" + p + ", 0)", x.person(p, 0), 5);
    }
  }

  /** Promise 5: what 0 to 6. */
  private static void personWhat() {
    StandRank x = Check.told("court;person strength 99 mark 9;person strength 0;tune;pains : 99;");
    for (int what : new int[] {LOW, -1, 7, 8, HIGH}) {
      Check.due("P5 what " + what, x.person(0, what), -99000002);
      Check.due("P5 what " + what, x.person(2, what), -99000002);
    }
    x.play(0);
    x.change(0, 1);
    int[][] want = {{98, 9, 1, 1, 0, 99, -1}, {0, 0, 0, 0, 1, 99, 1}};
    for (int p = 0; p < 2; p++) for (int what = 0; what < 7; what++) Check.due("P5 person(" + p + ", " + what + ")", x.person(p, what), want[p][what]);
    Twin.leaves("P5 refused", y -> y.person(4, 0), -99000002);
    Twin.leaves("P5 refused", y -> y.person(0, 7), -99000002);
    Twin.leaves("P5 asks", y -> y.person(1, 4), 1);
  }

  /** Promise 5, what 6: the MINUTE in which it SAT down (of its own: how many were played then; NONE: it STANDS). */
  private static void personSat() {
    StandRank x = Check.told("court;person strength 0;person strength 9;person strength 1;person strength 9;tune;");
    for (int p = 0; p < 4; p++) Check.due("P5 it stands", x.person(p, 6), -1);
    x.sit(3);
    Check.due("P5 of its own ahead of all minutes", x.person(3, 6), 0);
    x.play(0);
    Check.due("P5 in the first minute", x.person(0, 6), 1);
    x.sit(1);
    Check.due("P5 of its own behind the first", x.person(1, 6), 1);
    x.play(0);
    Check.due("P5 in the second", x.person(2, 6), 2);
    x.play(0);
    int[] want = {1, 1, 2, 0};
    for (int p = 0; p < 4; p++) Check.due("P5 it stays", x.person(p, 6), want[p]);
    x.evening();
    for (int p = 0; p < 4; p++) Check.due("P5 it stands again", x.person(p, 6), -1);
  }

  /** Terms, PLACES: each of its rules, from 0 to 5. */
  private static void personPlaces() {
    StandRank x = Check.told(SIX);
    for (int p = 0; p < 6; p++) Check.due("P5 of those who stand the lesser number", x.person(p, 4), p);
    x.change(0, 5);
    for (int p = 0; p < 6; p++) Check.due("P5 not by spots", x.person(p, 4), p);
    x.sit(0);
    places(x, "who stands is ahead of who sits", 5, 0, 1, 2, 3, 4);
    x.sit(2);
    places(x, "that sat down later", 5, 0, 4, 1, 2, 3);
    x.sit(1);
    places(x, "that sat down later", 5, 3, 4, 0, 1, 2);
    x = Check.told("court;person strength 1;person strength 0;person strength 3;person strength 0;person strength 1;person strength 2;tune;");
    x.play(0);
    places(x, "in one minute the lesser number", 0, 4, 1, 5, 2, 3);
    x.play(0);
    places(x, "in one minute the lesser number", 2, 4, 0, 5, 3, 1);
    x.sit(5);
    places(x, "of its own, behind a minute", 2, 4, 0, 5, 3, 1);
    x.play(0);
    x.play(0);
    places(x, "all sit", 2, 4, 0, 5, 3, 1);
    x = Check.told("court;person strength 0;person strength 5;person strength 0;tune;");
    x.sit(1);
    x.play(0);
    places(x, "of its own, ahead of a minute", 0, 2, 1);
    x.evening();
    x.play(0);
    x.sit(1);
    // all three have minute 1, but 1 sat down behind it
    places(x, "of its own, behind the minute in which others sat", 1, 0, 2);
  }

  private static void places(StandRank x, String rule, int... want) {
    for (int p = 0; p < want.length; p++) Check.due("Terms, PLACES: " + rule + ", of " + p, x.person(p, 4), want[p]);
  }

  /** Promise 6: -2. */
  private static void tiresCodes() {
    StandRank x = Check.told(SIX);
    for (int p : new int[] {LOW, -1, 6, 7, HIGH}) for (int t = 0; t < 4; t++) Check.due("P6 no person", x.tires(p, t), -2);
    for (int t : new int[] {LOW, -1, 4, 5, HIGH}) for (int p = 0; p < 6; p++) Check.due("P6 no tune", x.tires(p, t), -2);
    for (int p = 0; p < 6; p++) for (int t = 0; t < 4; t++) Check.due("P6 tires", x.tires(p, t), 1);
    x = Check.told("court;person strength 5;");
    Check.due("P6 no tunes", x.tires(0, 0), -2);
    x.sit(0);
    Check.due("P6 no tune, ahead of 0", x.tires(0, 0), -2);
    Twin.leaves("P6 refused", y -> y.tires(4, 0), -2);
    Twin.leaves("P6 refused", y -> y.tires(0, 2), -2);
    Twin.leaves("P6 asks", y -> y.tires(1, 1), 3);
  }

  /** Promise 6: 0: it SITS. */
  private static void tiresSits() {
    StandRank x = Check.told("court;person strength 5;person strength 0;tune;tires : 9 + up;");
    Check.due("P6 it stands", x.tires(0, 0), 11);
    x.sit(0);
    Check.due("P6 it sits", x.tires(0, 0), 0);
    Check.due("P6 the other one", x.tires(1, 0), 10);
    x.play(0);
    Check.due("P6 it sat down in a minute", x.tires(1, 0), 0);
    x.evening();
    Check.due("P6 it stands again", x.tires(0, 0), 11);
    Check.due("P6 as now", x.person(0, 0), 5);
  }

  /** Promise 7: -2: below 0, above 5. */
  private static void officePlaces() {
    StandRank x = Check.told("court;office 1;office 99;");
    StandRank none = new StandRank();
    StandRank six = Check.told("court;office 10;office 11;office 12;office 13;office 14;office 15;");
    int[] want = {1, 99, 0, 0, 0, 0};
    for (int place = 0; place <= 5; place++) {
      Check.due("P7 office(" + place + ")", x.office(place), want[place]);
      Check.due("P7 office(" + place + ") without any", none.office(place), 0);
      Check.due("P7 office(" + place + ") of six", six.office(place), 10 + place);
    }
    for (int place : new int[] {LOW, -1, 6, 7, HIGH}) {
      Check.due("P7 office(" + place + ")", x.office(place), -2);
      Check.due("P7 office(" + place + ") without any", none.office(place), -2);
      Check.due("P7 office(" + place + ") of six", six.office(place), -2);
    }
    Twin.leaves("P7 refused", y -> y.office(6), -2);
  }

  /** Promise 8: -2. */
  private static void spots() {
    for (int n = 0; n <= 6; n++) {
      StandRank x = Check.told("court;" + "person strength 5;".repeat(n));
      for (int k = 0; k < n; k++) Check.due("P8 of " + n + ", spot(" + k + ")", x.spot(k), k);
      for (int k : new int[] {LOW, -1, n, n + 1, HIGH}) Check.due("P8 of " + n + ", spot(" + k + ")", x.spot(k), -2);
    }
    StandRank x = Check.told("court;" + "person strength 5;".repeat(6));
    x.change(0, 5);
    x.change(5, 2);
    int[] want = {2, 1, 5, 3, 4, 0};
    for (int k = 0; k < 6; k++) Check.due("P8 spot(" + k + ")", x.spot(k), want[k]);
    for (int k = 0; k < 6; k++) Check.due("P5 its spot", x.person(want[k], 3), k);
    Twin.leaves("P8 refused", y -> y.spot(4), -2);
  }
}
