import java.lang.management.ManagementFactory;

/**
 * All calls of a run live in one room of 600,000 objects and 7.3 million fields and elements: only court() may make anything,
 * and little. An object has 16 bytes at least, a field or an element one at least. The dearest calls end soon.
 */
public final class RoomTest {
  private static final long ROOM = 7300000;
  private static final String DEAR = "court;" + "person strength 99 mark 1;".repeat(6) + "tune odds 9;".repeat(4) + "office 50;office 40;"
    + "tires : if [ who = tune or beside = 2 ] and not strength < 9 then ( 1 + 2 * mark ) * ( beside + up ) - minute else 3 + who end;"
    + "pains : if minute > 3 and beside < 2 or who = 1 then minute * 2 - up else 3 - who * tune end;";

  public static void main(String[] args) {
    com.sun.management.ThreadMXBean threads = (com.sun.management.ThreadMXBean) ManagementFactory.getThreadMXBean();
    long me = Thread.currentThread().getId();
    long started = System.nanoTime();
    run(Check.told(DEAR));
    long ahead = threads.getThreadAllocatedBytes(me);
    StandRank x = new StandRank();
    long made = threads.getThreadAllocatedBytes(me);
    bytes("a new object", made - ahead, 60000);
    Check.tell(x, DEAR);
    long told = threads.getThreadAllocatedBytes(me);
    run(x);
    long ran = threads.getThreadAllocatedBytes(me);
    bytes("a run without court()", ran - told, 2000);
    for (int k = 0; k < 100; k++) Check.tell(x, DEAR);
    bytes("a court()", (threads.getThreadAllocatedBytes(me) - ran) / 100, 12000);
    long room = threads.getThreadAllocatedBytes(me);
    longCourts();
    long long512 = threads.getThreadAllocatedBytes(me);
    bytes("512 calls that tell long texts", long512 - room, ROOM);
    shortCourts();
    bytes("512 calls that tell short texts", threads.getThreadAllocatedBytes(me) - long512, ROOM);
    Check.due("a minute is more than enough", (System.nanoTime() - started) / 60000000000L, 0);
    Check.end();
  }

  private static void bytes(String what, long got, long most) {
    if (got > most) Check.due(what + " makes bytes", got, most);
  }

  /** As many laws as 900 bytes hold, each of which is made and struck. */
  private static void longCourts() {
    StandRank x = new StandRank();
    for (int k = 0; k < 512; k += 46) {
      x.feed(0x636f7572, 0x743b7469, 0x7265733a, 0x75703b20, 0x20202020);
      for (int i = 0; i < 44; i++) x.feed(0x74697265, 0x733a7570, 0x3b706169, 0x6e733a75, 0x703b2020);
      int lines = x.court(900);
      if (lines != 90) Check.due("lines", lines, 90);
    }
  }

  private static void shortCourts() {
    StandRank x = new StandRank();
    for (int k = 0; k < 512; k += 2) {
      x.feed(0x636f7572, 0x743b7469, 0x7265733a, 0x75703b70, 0x61696e73);
      int code = x.court(20);
      if (code != -32) Check.due("a text that ends too soon", code, -32);
    }
  }

  private static void run(StandRank x) {
    x.numbers(0, 1, 30);
    for (int i = 0; i < 30; i++) x.write(0, i, i % 4);
    x.numbers(1, 1, 6);
    for (int i = 0; i < 6; i++) x.write(1, i, 5 - i);
    for (int p = 0; p < 6; p++) {
      x.sit((p + 3) % 6);
      x.evening();
      x.alone(p);
      x.aloneBy(p, 3);
      x.ways(p, 7);
      x.sits(1);
      x.sitsBy(1, 2);
      x.row(0, p);
      x.rowSpot(0, p, 2);
      x.leans(0, p);
      x.chairs(0, p, 1);
      x.rooms(0, p, 3);
      x.bound(0, p, 0, 1);
      x.next(0, p, 2);
      x.rests(p, (p + 1) % 6, 1, 20);
      x.rest(p, (p + 1) % 6, 1, 20, 0);
      x.chance(p, 6, 1);
      x.chancellor(6);
      x.bestSit(0, p);
      x.worth(0, p);
      x.judge(0, 2);
      x.perform(0);
      x.season(p, 40);
      x.undo(2);
      x.lists(0, p);
      x.image(p % 2);
      x.restore(p % 2);
    }
  }
}
