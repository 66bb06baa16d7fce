import java.util.ArrayList;
import java.util.List;
import java.util.Random;

/**
 * Promises 6, 9 to 38, 41 to 43: what a call tells of a night, of music, rows, chairs .. is held against what comes of it
 * when it is done, by deeds, on an object of the same court; each trial has a new object, so that nothing must be undone.
 */
public final class ByDeedsTest {
  private static final String[] TIRES = {"", "tires : 1 + tune;", "tires : beside + tune;", "tires : 3 - beside;", "tires : up - who;",
    "tires : if strength > 4 then 3 else 1 + tune end;", "tires : if who = tune then 0 else 2 end;", "tires : mark + minute;",
    "tires : if beside = 2 or tune = 1 then 4 - mark else 1 end;", "tires : if up > 2 then 2 else 0 end;"};
  private static final String[] PAINS = {"", "pains : minute - 1;", "pains : beside * 2 - up;", "pains : if tune = 0 then 3 else 0 - 2 end;",
    "pains : strength - 4;", "pains : 0;", "pains : who - minute;"};

  private final Random random;
  private final int[] strength;
  private final int[] odds;
  private final StringBuilder rest = new StringBuilder();
  private final List<int[]> deeds = new ArrayList<>();
  private final int[] night;
  private StandRank x;

  private ByDeedsTest(long seed) {
    random = new Random(seed);
    strength = new int[1 + random.nextInt(random.nextInt(3) == 0 ? 6 : 4)];
    odds = new int[1 + random.nextInt(3)];
    for (int p = 0; p < strength.length; p++) strength[p] = random.nextInt(9);
    for (int t = 0; t < odds.length; t++) rest.append("tune odds ").append(odds[t] = random.nextInt(4)).append(';');
    for (int k = random.nextInt(5); k > 0; k--) rest.append("office ").append(random.nextInt(20)).append(';');
    rest.append(TIRES[random.nextInt(TIRES.length)]).append(PAINS[random.nextInt(PAINS.length)]);
    night = new int[random.nextInt(7)];
    for (int i = 0; i < night.length; i++) night[i] = random.nextInt(odds.length);
  }

  public static void main(String[] args) {
    for (long seed = 1; seed <= 250; seed++) {
      ByDeedsTest t = new ByDeedsTest(seed);
      t.someDeeds(random -> random.nextInt(5));
      t.ask();
    }
    for (long seed = 1001; seed <= 1080; seed++) {
      ByDeedsTest t = new ByDeedsTest(seed);
      // without minutes and wine a strength is as the text tells it
      t.someDeeds(random -> 1 + random.nextInt(2));
      t.strengths();
    }
    Check.end();
  }

  interface Sort { int of(Random random); }

  private void someDeeds(Sort sort) {
    for (int k = random.nextInt(5); k > 0; k--) {
      deeds.add(new int[] {sort.of(random), random.nextInt(6), random.nextInt(6)});
    }
    askAnew();
  }

  /** An object is used for at most 512 calls, so each sort of question has one of its own; its tray 0 is the night. */
  private void askAnew() {
    x = fresh();
    tray(x, 0, night);
  }

  private void ask() {
    Runnable[] questions = {this::tiring, this::nights, this::music, this::orders, this::rows, this::leaning, this::seating, this::waiting,
      this::chances, this::told, this::listed, this::backwards};
    for (Runnable question : questions) {
      askAnew();
      question.run();
    }
  }

  // ---- doing

  private String text(int p, int s) {
    StringBuilder told = new StringBuilder("court;");
    for (int q = 0; q < strength.length; q++) told.append("person strength ").append(q == p ? s : strength[q]).append(" mark ").append(q * 7 % 4).append(';');
    return told.append(rest).toString();
  }

  private StandRank made(int many) { return made(many, -1, 0); }

  private StandRank made(int many, int p, int s) {
    StandRank y = Check.told(text(p, s));
    for (int k = 0; k < many; k++) deed(y, deeds.get(k));
    return y;
  }

  private static int deed(StandRank y, int[] d) {
    switch (d[0]) {
      case 0: return y.play(d[1]);
      case 1: return y.sit(d[1]);
      case 2: return y.change(d[1], d[2]);
      case 3: return y.wine(d[1], 1 + d[2]);
      default: return y.play(d[2]);
    }
  }

  private StandRank fresh() { return made(deeds.size()); }
  private boolean stands(StandRank y, int p) { return y.person(p, 2) == 1; }

  private void go(StandRank y, int from, int to) {
    for (int i = from; i < to; i++) y.play(night[i]);
  }

  /** How many minutes of the night one stands to the end of. */
  private int stood(StandRank y, int p) {
    int many = 0;
    for (int t : night) {
      y.play(t);
      if (stands(y, p)) many++;
    }
    return many;
  }

  private void due(String call, long got, long want) {
    Check.due(call + " in " + text(-1, 0) + " night " + java.util.Arrays.toString(night) + " behind " + java.util.Arrays.deepToString(deeds.toArray()), got, want);
  }

  private void tray(StandRank y, int tray, int... v) {
    y.numbers(tray, 1, v.length);
    for (int i = 0; i < v.length; i++) y.write(tray, i, v[i]);
  }

  // ---- promises 6, 18 to 22

  private void tiring() {
    for (int t = 0; t < odds.length; t++) {
      StandRank y = fresh();
      y.play(t);
      for (int p = 0; p < strength.length; p++) {
        int told = x.tires(p, t);
        if (!stands(x, p)) due("P6 it sits", told, 0);
        else if (stands(y, p)) due("P6 tires(" + p + ", " + t + ")", told, x.person(p, 0) - y.person(p, 0));
        else due("P6 tires(" + p + ", " + t + ") by more than it has", told > x.person(p, 0) ? 1 : 0, 1);
      }
    }
  }

  private void nights() {
    StandRank y = fresh();
    go(y, 0, night.length);
    due("P20 breakfast", x.breakfast(0), y.count(3));
    for (int p = 0; p < strength.length; p++) {
      due("P19 place(0, " + p + ")", x.place(0, p), y.person(p, 4));
      due("P21 worth(0, " + p + ")", x.worth(0, p), y.office(y.person(p, 4)) - y.person(p, 5));
      due("P18 stands(0, " + p + ")", x.stands(0, p), stands(x, p) ? stood(fresh(), p) : -5);
      due("P22 bestSit(0, " + p + ")", x.bestSit(0, p), stands(x, p) ? bestSit(p) : -99000005);
    }
  }

  private int bestSit(int p) {
    int best = 0;
    int most = Integer.MIN_VALUE;
    for (int k = 0; k <= night.length; k++) {
      StandRank y = fresh();
      go(y, 0, k);
      y.sit(p);
      go(y, k, night.length);
      int worth = y.office(y.person(p, 4)) - y.person(p, 5);
      if (worth > most) {
        most = worth;
        best = k;
      }
    }
    return best;
  }

  // ---- promises 23 to 27

  /** All music of n minutes, the first tune by tune. */
  private List<int[]> allMusic(int n) {
    List<int[]> all = new ArrayList<>(List.of(new int[0]));
    for (int k = 0; k < n; k++) {
      List<int[]> longer = new ArrayList<>();
      for (int[] m : all) for (int t = 0; t < odds.length; t++) {
        int[] more = java.util.Arrays.copyOf(m, k + 1);
        more[k] = t;
        longer.add(more);
      }
      all = longer;
    }
    return all;
  }

  private StandRank played(int[] music) {
    StandRank y = fresh();
    for (int t : music) y.play(t);
    return y;
  }

  private void music() {
    for (int p = 0; p < strength.length; p++) {
      if (!stands(x, p)) continue;
      int[] first = null;
      for (int n = 0; n <= 3; n++) {
        int ways = 0;
        for (int[] m : allMusic(n)) if (played(m).count(3) == 1 << p) {
          ways++;
          if (first == null) first = m;
        }
        due("P25 ways(" + p + ", " + n + ")", x.ways(p, n), ways);
      }
      int length = x.alone(p);
      if (first == null) due("P23 not in three minutes", length < 0 || length > 3 ? 1 : 0, 1);
      else same("P24 aloneBy", first, length, p, -1);
      if (length > 0) {
        int[] m = new int[length];
        for (int i = 0; i < length; i++) m[i] = x.aloneBy(p, i);
        due("P24 by its music one stands alone", played(m).count(3), 1 << p);
      }
    }
  }

  private void same(String call, int[] want, int length, int p, int tray) {
    due(call + ": how many", length, want.length);
    for (int i = 0; i < want.length; i++) due(call + " " + i, tray < 0 ? x.aloneBy(p, i) : x.sitsBy(tray, i), want[i]);
    due(call + ": no more", tray < 0 ? x.aloneBy(p, want.length) : x.sitsBy(tray, want.length), -1);
  }

  private void orders() {
    for (int trial = 0; trial < 3; trial++) {
      List<Integer> left = new ArrayList<>();
      for (int p = 0; p < strength.length; p++) left.add(p);
      int[] order = new int[1 + random.nextInt(Math.min(3, strength.length))];
      for (int i = 0; i < order.length; i++) order[i] = left.remove(random.nextInt(left.size()));
      tray(x, 1, order);
      int[] first = null;
      for (int n = 0; n <= 3 && first == null; n++) {
        for (int[] m : allMusic(n)) if (first == null && satInOrder(played(m), order)) first = m;
      }
      int length = x.sits(1);
      if (first == null) due("P26 not in three minutes", length < 0 || length > 3 ? 1 : 0, 1);
      else same("P27 sitsBy", first, length, -1, 1);
    }
  }

  private boolean satInOrder(StandRank y, int[] order) {
    for (int i = 0; i < order.length; i++) {
      if (stands(y, order[i])) return false;
      if (i > 0 && (y.person(order[i - 1], 4) < y.person(order[i], 4) || together(y, order[i - 1], order[i]))) return false;
    }
    return true;
  }

  /** In one minute, neither of its own. */
  private boolean together(StandRank y, int p, int q) {
    for (int k = 0; k < deeds.size(); k++) {
      int[] d = deeds.get(k);
      if (d[0] == 1 && (d[1] == p || d[1] == q) && stands(made(k), d[1])) return false;
    }
    return y.person(p, 6) == y.person(q, 6);
  }

  // ---- promises 28 to 31

  private void orders(List<Integer> head, List<int[]> all) {
    if (head.size() == strength.length) all.add(head.stream().mapToInt(p -> p).toArray());
    for (int p = 0; p < strength.length; p++) if (!head.contains(p)) {
      head.add(p);
      orders(head, all);
      head.remove(head.size() - 1);
    }
  }

  private StandRank inRow(int[] row) {
    StandRank y = fresh();
    for (int k = 0; k < row.length; k++) if (y.spot(k) != row[k]) y.change(row[k], y.spot(k));
    for (int k = 0; k < row.length; k++) due("P11 changed to spot " + k, y.spot(k), row[k]);
    return y;
  }

  private void rows() {
    // all orders of more would take long
    if (strength.length > 4) return;
    List<int[]> all = new ArrayList<>();
    orders(new ArrayList<>(), all);
    for (int p = 0; p < strength.length; p++) {
      if (!stands(x, p)) continue;
      int most = -1;
      int[] best = null;
      for (int[] row : all) {
        int minutes = stood(inRow(row), p);
        if (minutes > most) {
          most = minutes;
          best = row;
        }
      }
      due("P28 row(0, " + p + ")", x.row(0, p), most);
      for (int k = 0; k < best.length; k++) due("P29 rowSpot(0, " + p + ", " + k + ")", x.rowSpot(0, p, k), best[k]);
    }
  }

  private void leaning() {
    for (int p = 0; p < strength.length; p++) {
      if (!stands(x, p)) continue;
      int usual = stood(fresh(), p);
      int bits = 0;
      for (int q = 0; q < strength.length; q++) if (q != p && stands(x, q)) {
        StandRank y = fresh();
        y.sit(q);
        if (stood(y, p) < usual) bits |= 1 << q;
      }
      due("P30 leans(0, " + p + ")", x.leans(0, p), bits);
    }
  }

  private void seating() {
    for (int p = 0; p < strength.length; p++) {
      if (!stands(x, p)) continue;
      int best = -1;
      int others = x.count(3) & ~(1 << p);
      for (int set = 0; set < 1 << strength.length; set++) {
        if ((set & ~others) != 0 || best >= 0 && Integer.bitCount(set) >= Integer.bitCount(best)) continue;
        StandRank y = fresh();
        for (int q = 0; q < strength.length; q++) if ((set >> q & 1) == 1) y.sit(q);
        go(y, 0, night.length);
        if (y.person(p, 4) == 0) best = set;
      }
      due("P31 chairs(0, " + p + ", 1)", x.chairs(0, p, 1), best);
      due("P31 chairs(0, " + p + ", 0)", x.chairs(0, p, 0), Integer.bitCount(best));
    }
  }

  // ---- promises 32 to 34

  private void strengths() {
    int p = random.nextInt(strength.length);
    if (!stands(x, p)) return;
    List<List<Integer>> in = new ArrayList<>();
    for (int m = 0; m <= night.length; m++) in.add(new ArrayList<>());
    for (int s = 0; s < 100; s++) {
      StandRank y = made(deeds.size(), p, s);
      go(y, 0, night.length);
      in.get(stands(y, p) ? 0 : y.person(p, 6)).add(s);
    }
    for (int m = 0; m <= night.length; m++) {
      List<Integer> found = in.get(m);
      due("P32 rooms(0, " + p + ", " + m + ")", x.rooms(0, p, m), found.size());
      due("P33 least of " + m, x.bound(0, p, m, 0), found.isEmpty() ? -1 : found.get(0));
      due("P33 greatest of " + m, x.bound(0, p, m, 1), found.isEmpty() ? -1 : found.get(found.size() - 1));
      due("P34 next(0, " + p + ", " + m + ")", x.next(0, p, m), found.isEmpty() ? -1 : nextTune(p, found));
    }
  }

  private int nextTune(int p, List<Integer> found) {
    int best = -1;
    int most = -1;
    for (int t = 0; t < odds.length; t++) {
      int sat = 0;
      for (int s : found) {
        StandRank y = made(deeds.size(), p, s);
        y.play(t);
        if (!stands(y, p)) sat++;
      }
      if (Math.min(sat, found.size() - sat) > most) {
        most = Math.min(sat, found.size() - sat);
        best = t;
      }
    }
    return best;
  }

  // ---- promises 35, 36

  private void waiting() {
    int p = random.nextInt(strength.length);
    int q = random.nextInt(strength.length);
    int tune = random.nextInt(odds.length);
    int bound = random.nextInt(4);
    if (p == q || !stands(x, p) || !stands(x, q)) return;
    int[][][] wins = new int[bound + 1][bound + 1][];
    for (int a = 0; a <= bound; a++) for (int b = 0; b <= bound; b++) wins[a][b] = waited(p, q, tune, a, b);
    int found = 0;
    for (int a = 0; a <= bound; a++) for (int b = 0; b <= bound; b++) {
      boolean rest = true;
      for (int k = 0; k <= bound; k++) rest &= wins[k][b][0] <= wins[a][b][0] && wins[a][k][1] <= wins[a][b][1];
      if (rest) due("P36 rest " + found, x.rest(p, q, tune, bound, found++), 100 * a + b);
    }
    due("P35 rests(" + p + ", " + q + ", " + tune + ", " + bound + ")", x.rests(p, q, tune, bound), found);
    due("P36 no more", x.rest(p, q, tune, bound, found), -1);
  }

  /** Others go by sitting down, as those do whose going leans() tells of. */
  private int[] waited(int p, int q, int tune, int a, int b) {
    StandRank y = fresh();
    for (int other = 0; other < strength.length; other++) if (other != p && other != q) y.sit(other);
    int first = 0;
    int second = 0;
    for (int minute = 0; minute < Math.max(a, b); minute++) {
      if (minute == a) y.sit(p);
      if (minute == b) y.sit(q);
      y.play(tune);
      if (stands(y, p)) first++;
      if (stands(y, q)) second++;
    }
    return new int[] {y.office(first > second ? 0 : 1) - (y.person(p, 5) - x.person(p, 5)),
      y.office(second > first ? 0 : 1) - (y.person(q, 5) - x.person(q, 5))};
  }

  // ---- promises 37, 38

  private void chances() {
    int all = 0;
    for (int o : odds) all += o;
    for (int n = 0; n <= 3; n++) {
      long[] above = new long[strength.length];
      long below = 0;
      for (int[] m : allMusic(all == 0 ? 0 : n)) {
        long weight = 1;
        for (int t : m) weight *= odds[t];
        StandRank y = played(m);
        below += weight;
        for (int p = 0; p < strength.length; p++) if (y.person(p, 4) == 0) above[p] += weight;
      }
      int best = 0;
      for (int p = 0; p < strength.length; p++) {
        if (above[p] > above[best]) best = p;
        long a = x.chance(p, n, 0);
        long b = x.chance(p, n, 1);
        due("P37 chance(" + p + ", " + n + ", ..)", a * below, above[p] * b);
        due("P37 in lowest terms", common(a, b), 1);
      }
      due("P38 chancellor(" + n + ")", x.chancellor(n), best);
    }
  }

  private static long common(long a, long b) { return b == 0 ? a : common(b, a % b); }

  // ---- promises 15 to 17: deeds told in a tray, deeds drawn, against calls one by one

  private void told() {
    int[] v = new int[random.nextInt(6)];
    for (int i = 0; i < v.length; i++) {
      int[] any = {random.nextInt(odds.length), 10 + random.nextInt(strength.length), 100 + random.nextInt(66), 200 + random.nextInt(66), -1};
      v[i] = any[random.nextInt(any.length)];
    }
    tray(x, 2, v);
    StandRank y = fresh();
    int done = 0;
    int code = 0;
    while (done < v.length && code >= 0) {
      code = one(y, v[done]);
      if (code >= 0) done++;
    }
    due("P15 the first place that can't be", x.judge(2, 0), done < v.length ? done : -1);
    due("P15 why", x.judge(2, 1), done < v.length ? -10 - code : 0);
    due("P15 who stands", x.judge(2, 2), y.count(3));
    due("P15 who has place 0", y.person(x.judge(2, 3), 4), 0);
    StandRank z = fresh();
    tray(z, 2, v);
    due("P16 perform", z.perform(2), done);
    alike("P16 performed", z, y);
    int seed = random.nextInt();
    z = fresh();
    y = fresh();
    due("P17 season", z.season(seed, 12), drawn(y, seed, 12));
    alike("P17 a season", z, y);
  }

  private static int one(StandRank y, int v) {
    if (v < 0) return y.evening();
    if (v < 10) return y.play(v);
    if (v < 20) return y.sit(v - 10);
    return v < 200 ? y.change((v - 100) / 10, v % 10) : y.wine((v - 200) / 10, v % 10);
  }

  private static int drawn(StandRank y, int seed, int times) {
    int[] now = {seed};
    int done = 0;
    for (int k = 0; k < times; k++) {
      int sort = draw(now) % 6;
      int code;
      if (sort <= 2) code = y.play(draw(now) % 4);
      else if (sort == 3) code = y.sit(draw(now) % 6);
      else if (sort == 4) code = y.change(draw(now) % 6, draw(now) % 6);
      else code = y.evening();
      if (code >= 0) done++;
    }
    return done;
  }

  private static int draw(int[] now) {
    now[0] = 1103515245 * now[0] + 12345;
    return now[0] >>> 16;
  }

  private void alike(String call, StandRank a, StandRank b) {
    for (int what : new int[] {0, 1, 2, 3, 4, 5, 6, 7, 10}) due(call + ", count(" + what + ")", a.count(what), b.count(what));
    for (int p = 0; p < strength.length; p++) {
      for (int what = 0; what < 7; what++) due(call + ", person(" + p + ", " + what + ")", a.person(p, what), b.person(p, what));
      due(call + ", spot(" + p + ")", a.spot(p), b.spot(p));
    }
  }

  // ---- promises 14, 41 to 43

  private void listed() {
    for (int p = 0; p < strength.length; p++) {
      StandRank y = fresh();
      int length = stands(x, p) ? x.alone(p) : -1;
      tray(y, 3, new int[Math.max(length, 0)]);
      due("P41 lists(3, " + p + ")", y.lists(3, p), length < 0 ? -5 : length);
      if (length < 0) continue;
      due("P41 its music can be done", y.perform(3), length);
      due("P41 one stands alone by it", y.count(3), 1 << p);
    }
  }

  private void backwards() {
    for (int back = 0; back <= deeds.size(); back++) {
      int left = deeds.size() - back;
      StandRank y = made(left);
      due("P42 image", y.image(1), 0);
      int could = y.count(8);
      for (int k = left; k < deeds.size(); k++) deed(y, deeds.get(k));
      int did = y.count(8) - could;
      if (did > 0) due("P14 undo(" + did + ")", y.undo(did), could);
      alike("P14 undone", y, made(left));
      y.evening();
      due("P43 restore", y.restore(1), 0);
      alike("P43 restored", y, made(left));
      due("P43 nothing can be undone", y.count(8), 0);
    }
  }
}
