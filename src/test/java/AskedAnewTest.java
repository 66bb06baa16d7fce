import java.util.ArrayList;
import java.util.List;

/**
 * Promises 6, 15, 18 to 38: what a call answers depends on what is now, not on what was asked or done and undone ahead of it.
 * Each question is asked behind each other one, and behind changes, and must be answered as on a fresh object.
 */
public final class AskedAnewTest {
  private static final List<String> NAMES = new ArrayList<>();
  private static final List<Twin.Call> QUESTIONS = new ArrayList<>();

  public static void main(String[] args) {
    questions();
    oneBehindAnother();
    behindChanges();
    behindUndo();
    behindRestore();
    behindTrays();
    behindCourt();
    Check.end();
  }

  private static void ask(String name, Twin.Call call) {
    NAMES.add(name);
    QUESTIONS.add(call);
  }

  private static void questions() {
    for (int a = 0; a < 2; a++) {
      int p = a;
      int t = 2 + a;
      for (int b = 0; b < 3; b++) {
        int k = b;
        ask("P24 aloneBy(" + p + ", " + k + ")", x -> x.aloneBy(p, k));
        ask("P29 rowSpot(0, " + p + ", " + k + ")", x -> x.rowSpot(0, p, k));
        ask("P29 rowSpot(3, " + p + ", " + k + ")", x -> x.rowSpot(3, p, k));
        ask("P32 rooms(0, " + p + ", " + k + ")", x -> x.rooms(0, p, k));
        ask("P35 rests(0, 1, " + p + ", " + k + ")", x -> x.rests(0, 1, p, k));
        ask("P36 rest(1, 0, " + p + ", " + k + ", 0)", x -> x.rest(1, 0, p, k, 0));
        ask("P37 chance(" + p + ", " + k + ", 0)", x -> x.chance(p, k, 0));
        ask("P25 ways(" + p + ", " + k + ")", x -> x.ways(p, k));
      }
      ask("P23 alone(" + p + ")", x -> x.alone(p));
      ask("P26 sits(" + t + ")", x -> x.sits(t));
      ask("P27 sitsBy(" + t + ", 1)", x -> x.sitsBy(t, 1));
      ask("P28 row(0, " + p + ")", x -> x.row(0, p));
      ask("P33 bound(0, " + p + ", 1, 1)", x -> x.bound(0, p, 1, 1));
      ask("P34 next(0, " + p + ", 1)", x -> x.next(0, p, 1));
      ask("P30 leans(0, " + p + ")", x -> x.leans(0, p));
      ask("P31 chairs(0, " + p + ", 1)", x -> x.chairs(0, p, 1));
      ask("P21 worth(0, " + p + ")", x -> x.worth(0, p));
      ask("P22 bestSit(0, " + p + ")", x -> x.bestSit(0, p));
      ask("P18 stands(0, " + p + ")", x -> x.stands(0, p));
      ask("P19 place(0, " + p + ")", x -> x.place(0, p));
      ask("P6 tires(" + p + ", 1)", x -> x.tires(p, 1));
    }
    ask("P23 alone(2)", x -> x.alone(2));
    ask("P24 aloneBy(2, 0)", x -> x.aloneBy(2, 0));
    ask("P38 chancellor(4)", x -> x.chancellor(4));
    ask("P36 rest(0, 1, 1, 20, 3)", x -> x.rest(0, 1, 1, 20, 3));
    ask("P20 breakfast(0)", x -> x.breakfast(0));
    ask("P15 judge(1, 2)", x -> x.judge(1, 2));
  }

  /** Trays 0 and 3 are nights, 1 deeds, 2 and 3 orders of people. */
  private static StandRank fresh() {
    StandRank x = Check.told("court;person strength 7 mark 1;person strength 6;person strength 3 mark 2;tune odds 2;tune;"
      + "tires : if tune = 0 then 2 - beside + who else 1 + mark end;pains : if tune = 0 then 2 - who else beside - 1 end;office 9;office 4;");
    x.image(1);
    x.play(1);
    x.image(0);
    Twin.row(x, 0, 1, 1, 0, 1, 0, 1);
    Twin.row(x, 1, 1, 0, 101, 12);
    Twin.row(x, 2, 1, 2, 0);
    Twin.row(x, 3, 1, 1, 0);
    return x;
  }

  private static void oneBehindAnother() {
    for (int k = 0; k < QUESTIONS.size(); k++) {
      long want = QUESTIONS.get(k).on(fresh());
      for (int ahead = 0; ahead < QUESTIONS.size(); ahead++) {
        StandRank x = fresh();
        QUESTIONS.get(ahead).on(x);
        Check.due(NAMES.get(k) + " behind " + NAMES.get(ahead), QUESTIONS.get(k).on(x), want);
      }
    }
  }

  private static final String[] CHANGE_NAMES = {"play(0)", "play(1)", "sit(0)", "sit(1)", "sit(2)", "change(0, 1)", "change(1, 2)", "wine(0, 9)",
    "wine(2, 5)", "evening()", "perform(1)", "season(9, 5)"};
  private static final Twin.Call[] CHANGES = {x -> x.play(0), x -> x.play(1), x -> x.sit(0), x -> x.sit(1), x -> x.sit(2), x -> x.change(0, 1),
    x -> x.change(1, 2), x -> x.wine(0, 9), x -> x.wine(2, 5), x -> x.evening(), x -> x.perform(1), x -> x.season(9, 5)};

  private static StandRank changed(int c) {
    StandRank x = fresh();
    CHANGES[c].on(x);
    return x;
  }

  private static void behindChanges() {
    for (int c = 0; c < CHANGES.length; c++) for (int k = 0; k < QUESTIONS.size(); k++) {
      long want = QUESTIONS.get(k).on(changed(c));
      StandRank x = fresh();
      QUESTIONS.get(k).on(x);
      CHANGES[c].on(x);
      Check.due(NAMES.get(k) + ", then " + CHANGE_NAMES[c] + ", and again", QUESTIONS.get(k).on(x), want);
    }
  }

  private static void behindUndo() {
    for (int c = 0; c < CHANGES.length; c++) for (int k = 0; k < QUESTIONS.size(); k++) {
      int other = (c + 1) % CHANGES.length;
      StandRank x = changed(c);
      QUESTIONS.get(k).on(x);
      x.undo(1);
      Check.due(NAMES.get(k) + " behind " + CHANGE_NAMES[c] + ", undone", QUESTIONS.get(k).on(x), QUESTIONS.get(k).on(fresh()));
      x = changed(c);
      QUESTIONS.get(k).on(x);
      x.undo(1);
      CHANGES[other].on(x);
      Check.due(NAMES.get(k) + " behind " + CHANGE_NAMES[c] + ", undone, and " + CHANGE_NAMES[other], QUESTIONS.get(k).on(x), QUESTIONS.get(k).on(changed(other)));
    }
  }

  private static void behindRestore() {
    for (int c = 0; c < CHANGES.length; c++) for (int k = 0; k < QUESTIONS.size(); k++) {
      int other = (c + 5) % CHANGES.length;
      StandRank x = changed(c);
      QUESTIONS.get(k).on(x);
      x.restore(0);
      Check.due(NAMES.get(k) + " behind " + CHANGE_NAMES[c] + " and restore(0)", QUESTIONS.get(k).on(x), QUESTIONS.get(k).on(fresh()));
      x = changed(c);
      QUESTIONS.get(k).on(x);
      x.restore(0);
      CHANGES[other].on(x);
      Check.due(NAMES.get(k) + " behind " + CHANGE_NAMES[c] + ", restore(0), " + CHANGE_NAMES[other], QUESTIONS.get(k).on(x), QUESTIONS.get(k).on(changed(other)));
      x = changed(c);
      QUESTIONS.get(k).on(x);
      x.restore(1);
      x.play(1);
      Check.due(NAMES.get(k) + " behind restore(1), play(1)", QUESTIONS.get(k).on(x), QUESTIONS.get(k).on(fresh()));
    }
  }

  private static void behindCourt() {
    String other = "court;person strength 2;person strength 4 mark 1;person strength 0;tune;tune odds 4;tires : 1 + tune - mark;office 3;";
    for (int k = 0; k < QUESTIONS.size(); k++) {
      StandRank x = fresh();
      QUESTIONS.get(k).on(x);
      Check.tell(x, other);
      StandRank y = fresh();
      Check.tell(y, other);
      Check.due(NAMES.get(k) + " behind another court()", QUESTIONS.get(k).on(x), QUESTIONS.get(k).on(y));
      Check.tell(x, "court;?");
      Check.due(NAMES.get(k) + " behind a court() with a fault", QUESTIONS.get(k).on(x), QUESTIONS.get(k).on(y));
    }
  }

  /** Numbers that are written, and lists() that writes them. */
  private static void behindTrays() {
    for (int k = 0; k < QUESTIONS.size(); k++) {
      String name = NAMES.get(k);
      Twin.Call question = QUESTIONS.get(k);
      StandRank x = fresh();
      question.on(x);
      x.write(0, 0, 0);
      x.write(2, 1, 1);
      x.write(3, 0, 0);
      x.write(3, 1, 1);
      StandRank y = fresh();
      Twin.row(y, 0, 1, 0, 0, 1, 0, 1);
      Twin.row(y, 2, 1, 2, 1);
      Twin.row(y, 3, 1, 0, 1);
      Check.due(name + " behind write()", question.on(x), question.on(y));
      x = fresh();
      question.on(x);
      x.numbers(0, 0, 6);
      x.numbers(2, 0, 1);
      y = fresh();
      Twin.row(y, 0, 1, 0, 0, 0, 0, 0, 0);
      Twin.row(y, 2, 1, 0);
      Check.due(name + " behind numbers()", question.on(x), question.on(y));
      for (int writes = 0; writes < 3; writes++) {
        x = fresh();
        y = fresh();
        question.on(x);
        for (int i = 0; i < writes; i++) x.write(0, 1, 1);
        Check.due("P41 three of five", x.lists(0, 1), 3);
        for (int i = 0; i < 3; i++) y.write(0, i, y.aloneBy(1, i));
        Check.due(name + " behind " + writes + " times write() and lists()", question.on(x), question.on(y));
      }
    }
  }
}
