import java.math.BigInteger;
import java.util.ArrayList;
import java.util.Arrays;
import java.util.List;

/**
 * A second reading of the document, as plain and wasteful as can be: nothing is kept ready, all is
 * enumerated. FuzzTest holds StandRank against it.
 */
final class Oracle {
  interface Sum { long of(Facts f); }
  interface Truth { boolean of(Facts f); }

  static final class Facts { long who, mark, strength, tune, beside, up, minute; }

  static final class Fault extends RuntimeException {
    final int kind, place;
    Fault(int kind, int place) { super(null, null, false, false); this.kind = kind; this.place = place; }
  }

  static final class Person { int strength, mark; }

  static final class Told {
    List<Person> people = new ArrayList<>();
    List<Integer> odds = new ArrayList<>();
    List<Integer> offices = new ArrayList<>();
    Sum tires = f -> 1, pains = f -> 1;
    int lines;
    int worthOf(int place) { return place < offices.size() ? offices.get(place) : 0; }
  }

  // ---- the text

  static final class Token { String s; int at; boolean bad; Token(String s, int at, boolean bad) { this.s = s; this.at = at; this.bad = bad; } }

  static final class Parser {
    final List<Token> tokens = new ArrayList<>();
    int k = 0;
    final Told told = new Told();

    Parser(byte[] bytes) {
      int i = 0;
      while (i < bytes.length) {
        int c = bytes[i] & 255;
        if (c == 10 || c == 32) { i++; continue; }
        int from = i;
        boolean bad = false;
        if (c >= 'a' && c <= 'z') {
          while (i < bytes.length && bytes[i] >= 'a' && bytes[i] <= 'z') i++;
        } else if (c >= '0' && c <= '9') {
          while (i < bytes.length && bytes[i] >= '0' && bytes[i] <= '9') i++;
          bad = i - from > 3;
        } else {
          i++;
          bad = ";:+-*()[]=<>".indexOf(c) < 0;
        }
        StringBuilder s = new StringBuilder();
        for (int j = from; j < i; j++) s.append((char) (bytes[j] & 255));
        tokens.add(new Token(s.toString(), from, bad));
      }
      tokens.add(new Token("", bytes.length, false));
    }

    String peek() {
      Token t = tokens.get(k);
      if (t.bad) throw new Fault(1, t.at);
      return t.s;
    }
    Fault fault(int kind) { peek(); return new Fault(kind, tokens.get(k).at); }
    boolean is(String s) { return peek().equals(s); }
    void eat(String s) { if (!is(s)) throw fault(2); k++; }
    boolean isN() { String s = peek(); return !s.isEmpty() && Character.isDigit(s.charAt(0)); }
    int n(int most) {
      if (!isN()) throw fault(2);
      int v = Integer.parseInt(peek());
      if (v > most) throw fault(3);
      k++;
      return v;
    }

    Told parse() {
      eat("court"); eat(";");
      told.lines = 1;
      while (!is("")) {
        if (is("person")) {
          if (told.people.size() == 6) throw fault(4);
          k++;
          Person p = new Person();
          eat("strength");
          p.strength = n(99);
          while (is("mark")) { k++; p.mark = n(9); }
          told.people.add(p);
        } else if (is("tune")) {
          if (told.odds.size() == 4) throw fault(4);
          k++;
          int odds = 1;
          while (is("odds")) { k++; odds = n(9); }
          told.odds.add(odds);
        } else if (is("office")) {
          if (told.offices.size() == 6) throw fault(4);
          k++;
          told.offices.add(n(99));
        } else if (is("tires")) {
          k++; eat(":");
          told.tires = sum(6);
        } else if (is("pains")) {
          k++; eat(":");
          told.pains = sum(6);
        } else throw fault(2);
        eat(";");
        told.lines++;
      }
      return told;
    }

    static long keep(long v) { return v > 1000000 ? 1000000 : v < -1000000 ? -1000000 : v; }

    Sum sum(int left) {
      Sum a = term(left);
      while (is("+") || is("-")) {
        boolean plus = is("+");
        k++;
        Sum x = a, y = term(left);
        a = plus ? f -> keep(x.of(f) + y.of(f)) : f -> keep(x.of(f) - y.of(f));
      }
      return a;
    }

    Sum term(int left) {
      Sum a = atom(left);
      while (is("*")) {
        k++;
        Sum x = a, y = atom(left);
        a = f -> keep(x.of(f) * y.of(f));
      }
      return a;
    }

    Sum atom(int left) {
      if (isN()) { int v = n(999); return f -> v; }
      switch (peek()) {
        case "who": k++; return f -> f.who;
        case "mark": k++; return f -> f.mark;
        case "strength": k++; return f -> f.strength;
        case "tune": k++; return f -> f.tune;
        case "beside": k++; return f -> f.beside;
        case "up": k++; return f -> f.up;
        case "minute": k++; return f -> f.minute;
        case "(": {
          if (left == 0) throw fault(4);
          k++;
          Sum s = sum(left - 1);
          eat(")");
          return s;
        }
        case "if": {
          if (left == 0) throw fault(4);
          k++;
          Truth t = truth(left - 1);
          eat("then");
          Sum a = sum(left - 1);
          eat("else");
          Sum b = sum(left - 1);
          eat("end");
          return f -> t.of(f) ? a.of(f) : b.of(f);
        }
        default: throw fault(2);
      }
    }

    Truth truth(int left) {
      Truth a = both(left);
      while (is("or")) { k++; Truth x = a, y = both(left); a = f -> x.of(f) || y.of(f); }
      return a;
    }

    Truth both(int left) {
      Truth a = unit(left);
      while (is("and")) { k++; Truth x = a, y = unit(left); a = f -> x.of(f) && y.of(f); }
      return a;
    }

    Truth unit(int left) {
      if (is("not")) {
        if (left == 0) throw fault(4);
        k++;
        Truth t = unit(left - 1);
        return f -> !t.of(f);
      }
      if (is("[")) {
        if (left == 0) throw fault(4);
        k++;
        Truth t = truth(left - 1);
        eat("]");
        return t;
      }
      Sum a = sum(left);
      String sign = peek();
      if (!sign.equals("=") && !sign.equals("<") && !sign.equals(">")) throw fault(2);
      k++;
      Sum b = sum(left);
      return f -> sign.equals("=") ? a.of(f) == b.of(f) : sign.equals("<") ? a.of(f) < b.of(f) : a.of(f) > b.of(f);
    }
  }

  // ---- the hall

  static final class Hall {
    final Told told;
    int[] strength, pain, satIn;
    boolean[] up;
    List<Integer> row = new ArrayList<>();
    /** Who sat down together, the earliest first. */
    List<List<Integer>> sat = new ArrayList<>();
    int minutes;

    Hall(Told told) {
      this.told = told;
      for (int p = 0; p < told.people.size(); p++) row.add(p);
      evening();
    }

    Hall copy() {
      Hall h = new Hall(told);
      h.strength = strength.clone(); h.pain = pain.clone(); h.satIn = satIn.clone(); h.up = up.clone();
      h.row = new ArrayList<>(row);
      h.sat = new ArrayList<>(sat);
      h.minutes = minutes;
      return h;
    }

    int n() { return told.people.size(); }

    void evening() {
      strength = new int[n()]; pain = new int[n()]; satIn = new int[n()]; up = new boolean[n()];
      for (int p = 0; p < n(); p++) { strength[p] = told.people.get(p).strength; up[p] = true; satIn[p] = -1; }
      sat.clear();
      minutes = 0;
    }

    int upCount() { int c = 0; for (boolean b : up) if (b) c++; return c; }
    int upBits() { int c = 0; for (int p = 0; p < n(); p++) if (up[p]) c += 1 << p; return c; }

    Facts facts(int p, int tune) {
      Facts f = new Facts();
      f.who = p; f.mark = told.people.get(p).mark; f.strength = strength[p]; f.tune = tune;
      int k = row.indexOf(p);
      for (int d = -1; d <= 1; d += 2) if (k + d >= 0 && k + d < n() && up[row.get(k + d)]) f.beside++;
      f.up = upCount();
      f.minute = Math.min(99, minutes);
      return f;
    }

    int tired(int p, int tune) { return (int) Math.max(0, Math.min(99, told.tires.of(facts(p, tune)))); }

    void minute(int tune) {
      int[] less = new int[n()], more = new int[n()];
      for (int p = 0; p < n(); p++) if (up[p]) {
        less[p] = tired(p, tune);
        more[p] = (int) Math.max(-99, Math.min(99, told.pains.of(facts(p, tune))));
      }
      minutes++;
      List<Integer> now = new ArrayList<>();
      for (int p = 0; p < n(); p++) if (up[p]) {
        pain[p] += more[p];
        if (strength[p] < less[p]) { strength[p] = 0; now.add(p); satIn[p] = minutes; }
        else strength[p] -= less[p];
      }
      for (int p : now) up[p] = false;
      if (!now.isEmpty()) sat.add(now);
    }

    void sit(int p) { up[p] = false; satIn[p] = minutes; sat.add(List.of(p)); }

    List<Integer> precedence() {
      List<Integer> all = new ArrayList<>();
      for (int p = 0; p < n(); p++) if (up[p]) all.add(p);
      for (int k = sat.size() - 1; k >= 0; k--) all.addAll(sat.get(k));
      return all;
    }

    int placeOf(int p) { return precedence().indexOf(p); }
    int satAs(int p) { for (int k = 0; k < sat.size(); k++) if (sat.get(k).contains(p)) return k; return -1; }
  }

  static final class Tray { int sort; long[] v; }

  // ---- the calls

  private final List<Byte> tape = new ArrayList<>();
  private Told told = new Told();
  private Hall hall = new Hall(told);
  private final List<Hall> past = new ArrayList<>();
  private int faultKind = 0, faultPlace = -1;
  private final Tray[] trays = new Tray[4];
  private final Hall[] images = new Hall[2];

  private boolean isP(int p) { return p >= 0 && p < told.people.size(); }
  private boolean isT(long t) { return t >= 0 && t < told.odds.size(); }
  private boolean isTray(int t) { return t >= 0 && t < 4; }

  public int feed(int a, int b, int c, int d, int e) {
    if (tape.size() + 20 > 900) return -5;
    for (int w : new int[] {a, b, c, d, e}) for (int k = 3; k >= 0; k--) tape.add((byte) (w >>> (8 * k)));
    return tape.size();
  }

  public int court(int n) {
    if (n < 0 || n > tape.size()) return -3;
    byte[] text = new byte[n];
    for (int i = 0; i < n; i++) text[i] = tape.get(i);
    tape.clear();
    try {
      Told t = new Parser(text).parse();
      told = t;
      hall = new Hall(t);
      past.clear();
      faultKind = 0;
      faultPlace = -1;
      return t.lines;
    } catch (Fault f) {
      faultKind = f.kind;
      faultPlace = f.place;
      return -30 - f.kind;
    }
  }

  public int fault(int what) { return what == 0 ? faultKind : what == 1 ? faultPlace : -1; }

  public int person(int p, int what) {
    if (!isP(p) || what < 0 || what > 6) return -99000002;
    return new int[] {hall.strength[p], told.people.get(p).mark, hall.up[p] ? 1 : 0, hall.row.indexOf(p), hall.placeOf(p),
      hall.pain[p], hall.satIn[p]}[what];
  }

  public int tires(int p, int tune) { return !isP(p) || !isT(tune) ? -2 : hall.up[p] ? hall.tired(p, tune) : 0; }
  public int office(int place) { return place < 0 || place > 5 ? -2 : told.worthOf(place); }
  public int spot(int k) { return isP(k) ? hall.row.get(k) : -2; }

  private int deed(Hall h, long v) {
    if (v == -1) { h.evening(); return 0; }
    if (v >= 0 && v <= 9) { if (!isT(v)) return 1; h.minute((int) v); return 0; }
    if (v >= 10 && v <= 19) {
      int p = (int) v - 10;
      if (!isP(p)) return 1;
      if (!h.up[p]) return 2;
      h.sit(p);
      return 0;
    }
    if (v >= 100 && v <= 199) {
      int p = (int) (v - 100) / 10, q = (int) (v % 10);
      if (!isP(p) || !isP(q) || p == q) return 1;
      int i = h.row.indexOf(p), j = h.row.indexOf(q);
      h.row.set(i, q);
      h.row.set(j, p);
      return 0;
    }
    if (v >= 200 && v <= 299) {
      int p = (int) (v - 200) / 10, n = (int) (v % 10);
      if (!isP(p) || n == 0) return 1;
      if (!h.up[p]) return 2;
      h.strength[p] = Math.min(99, h.strength[p] + n);
      return 0;
    }
    return 1;
  }

  private int one(long v) {
    Hall was = hall.copy();
    int why = deed(hall, v);
    if (why == 0) keep(was);
    return why;
  }

  private void keep(Hall was) {
    past.add(was);
    if (past.size() > 10) past.remove(0);
  }

  public int play(int tune) {
    int was = hall.upCount();
    int why = isT(tune) ? one(tune) : 1;
    return why != 0 ? -10 - why : was - hall.upCount();
  }
  public int sit(int p) {
    int why = isP(p) ? one(10 + p) : 1;
    return why != 0 ? -10 - why : hall.placeOf(p);
  }
  public int change(int p, int q) {
    int why = isP(p) && isP(q) ? one(100 + 10 * p + q) : 1;
    return why != 0 ? -10 - why : hall.row.indexOf(p);
  }
  public int wine(int p, int n) {
    int why = isP(p) && n >= 1 && n <= 9 ? one(200 + 10 * p + n) : 1;
    return why != 0 ? -10 - why : hall.strength[p];
  }
  public int evening() {
    int was = hall.minutes;
    one(-1);
    return was;
  }
  public int undo(int n) {
    if (n < 1 || n > 10 || n > past.size()) return -3;
    for (int k = 0; k < n; k++) hall = past.remove(past.size() - 1);
    return past.size();
  }

  public int judge(int tray, int what) {
    if (!isTray(tray) || what < 0 || what > 3) return -2;
    if (trays[tray] == null) return -6;
    Hall h = hall.copy();
    int first = -1, why = 0;
    for (int i = 0; i < trays[tray].v.length && why == 0; i++) {
      why = deed(h, trays[tray].v[i]);
      if (why != 0) first = i;
    }
    if (what == 0) return first;
    if (what == 1) return why;
    if (what == 2) return h.upBits();
    return h.n() == 0 ? -1 : h.precedence().get(0);
  }

  public int perform(int tray) {
    if (!isTray(tray)) return -2;
    if (trays[tray] == null) return -6;
    Hall was = hall.copy();
    int done = 0;
    for (long v : trays[tray].v) {
      if (deed(hall, v) != 0) break;
      done++;
    }
    if (done > 0) keep(was);
    return done;
  }

  private int x;
  private int draw(int by) { x = x * 1103515245 + 12345; return (x >>> 16) % by; }

  public int season(int seed, int times) {
    if (times < 1 || times > 40) return -3;
    Hall was = hall.copy();
    x = seed;
    int done = 0;
    for (int k = 0; k < times; k++) {
      int sort = draw(6);
      long v;
      if (sort < 3) v = draw(4);
      else if (sort == 3) v = 10 + draw(6);
      else if (sort == 4) v = 100 + 10 * draw(6) + draw(6);
      else v = -1;
      if (deed(hall, v) == 0) done++;
    }
    if (done > 0) keep(was);
    return done;
  }

  private int night(int tray) {
    if (trays[tray] == null) return -6;
    if (trays[tray].v.length > 30) return -4;
    for (long v : trays[tray].v) if (!isT(v)) return -3;
    return 0;
  }

  private int night(int tray, int p) { return !isTray(tray) || !isP(p) ? -2 : night(tray); }
  private int nightUp(int tray, int p) {
    int c = night(tray, p);
    return c != 0 ? c : hall.up[p] ? 0 : -5;
  }

  private void go(Hall h, int tray) { for (long v : trays[tray].v) h.minute((int) v); }

  private int stood(Hall h, int tray, int p) {
    int c = 0;
    for (long v : trays[tray].v) {
      h.minute((int) v);
      if (h.up[p]) c++;
    }
    return c;
  }

  public int stands(int tray, int p) { int c = nightUp(tray, p); return c != 0 ? c : stood(hall.copy(), tray, p); }
  public int place(int tray, int p) {
    int c = night(tray, p);
    if (c != 0) return c;
    Hall h = hall.copy();
    go(h, tray);
    return h.placeOf(p);
  }
  public int breakfast(int tray) {
    int c = isTray(tray) ? night(tray) : -2;
    if (c != 0) return c;
    Hall h = hall.copy();
    go(h, tray);
    return h.upBits();
  }
  public int worth(int tray, int p) {
    int c = night(tray, p);
    if (c != 0) return -99000000 + c;
    Hall h = hall.copy();
    go(h, tray);
    return told.worthOf(h.placeOf(p)) - h.pain[p];
  }
  public int bestSit(int tray, int p) {
    int c = nightUp(tray, p);
    if (c != 0) return -99000000 + c;
    long[] v = trays[tray].v;
    int best = -1, most = 0;
    for (int k = 0; k <= v.length; k++) {
      Hall h = hall.copy();
      for (int i = 0; i < k; i++) h.minute((int) v[i]);
      if (h.up[p]) h.sit(p);
      for (int i = k; i < v.length; i++) h.minute((int) v[i]);
      int w = told.worthOf(h.placeOf(p)) - h.pain[p];
      if (best < 0 || w > most) { best = k; most = w; }
    }
    return best;
  }

  interface Wish { boolean met(Hall h); }

  private int up(int p) { return !isP(p) ? -2 : hall.up[p] ? 0 : -5; }

  private static boolean count(int[] seq, int base) {
    for (int i = seq.length - 1; i >= 0; i--) {
      if (++seq[i] < base) return true;
      seq[i] = 0;
    }
    return false;
  }

  private int[] shortest(Wish wish) {
    for (int n = 0; n <= 7; n++) {
      if (n > 0 && told.odds.isEmpty()) return null;
      int[] seq = new int[n];
      do {
        Hall h = hall.copy();
        for (int t : seq) h.minute(t);
        if (wish.met(h)) return seq;
      } while (count(seq, told.odds.size()));
    }
    return null;
  }

  private Wish aloneWish(int p) { return h -> h.up[p] && h.upCount() == 1; }

  public int alone(int p) {
    int c = up(p);
    if (c != 0) return c;
    int[] s = shortest(aloneWish(p));
    return s == null ? -1 : s.length;
  }
  public int aloneBy(int p, int i) {
    int c = up(p);
    if (c != 0) return c;
    if (i < 0) return -3;
    int[] s = shortest(aloneWish(p));
    return s == null || i >= s.length ? -1 : s[i];
  }
  public int ways(int p, int n) {
    int c = up(p);
    if (c != 0) return c;
    if (n < 0 || n > 7) return -3;
    if (n > 0 && told.odds.isEmpty()) return 0;
    int found = 0;
    int[] seq = new int[n];
    do {
      Hall h = hall.copy();
      for (int t : seq) h.minute(t);
      if (aloneWish(p).met(h)) found++;
    } while (count(seq, told.odds.size()));
    return found;
  }

  private int orderCode(int tray) {
    if (!isTray(tray)) return -2;
    if (trays[tray] == null) return -6;
    long[] v = trays[tray].v;
    if (v.length < 1 || v.length > 6) return -4;
    for (int i = 0; i < v.length; i++) {
      if (v[i] < 0 || v[i] >= told.people.size()) return -3;
      for (int j = 0; j < i; j++) if (v[i] == v[j]) return -3;
    }
    return 0;
  }
  private int[] order(int tray) {
    long[] v = trays[tray].v;
    return shortest(h -> {
      for (long q : v) if (h.up[(int) q]) return false;
      for (int i = 1; i < v.length; i++) if (h.satAs((int) v[i - 1]) >= h.satAs((int) v[i])) return false;
      return true;
    });
  }
  public int sits(int tray) {
    int c = orderCode(tray);
    if (c != 0) return c;
    int[] s = order(tray);
    return s == null ? -1 : s.length;
  }
  public int sitsBy(int tray, int i) {
    int c = orderCode(tray);
    if (c != 0) return c;
    if (i < 0) return -3;
    int[] s = order(tray);
    return s == null || i >= s.length ? -1 : s[i];
  }

  private void orders(List<Integer> head, List<List<Integer>> all) {
    if (head.size() == told.people.size()) { all.add(new ArrayList<>(head)); return; }
    for (int p = 0; p < told.people.size(); p++) if (!head.contains(p)) {
      head.add(p);
      orders(head, all);
      head.remove(head.size() - 1);
    }
  }
  private List<Integer> bestRow(int tray, int p) {
    List<List<Integer>> all = new ArrayList<>();
    orders(new ArrayList<>(), all);
    List<Integer> best = null;
    int most = -1;
    for (List<Integer> row : all) {
      Hall h = hall.copy();
      h.row = new ArrayList<>(row);
      int s = stood(h, tray, p);
      if (s > most) { most = s; best = row; }
    }
    return best;
  }
  public int row(int tray, int p) {
    int c = nightUp(tray, p);
    if (c != 0) return c;
    Hall h = hall.copy();
    h.row = new ArrayList<>(bestRow(tray, p));
    return stood(h, tray, p);
  }
  public int rowSpot(int tray, int p, int k) {
    int c = nightUp(tray, p);
    if (c != 0) return c;
    return isP(k) ? bestRow(tray, p).get(k) : -7;
  }
  public int leans(int tray, int p) {
    int c = nightUp(tray, p);
    if (c != 0) return c;
    int bits = 0;
    for (int q = 0; q < hall.n(); q++) if (q != p && hall.up[q]) {
      Hall h = hall.copy();
      h.sit(q);
      if (stood(h, tray, p) < stood(hall.copy(), tray, p)) bits += 1 << q;
    }
    return bits;
  }
  public int chairs(int tray, int p, int what) {
    if (what < 0 || what > 1) return -2;
    int c = nightUp(tray, p);
    if (c != 0) return c;
    int best = -1;
    for (int set = 0; set < 64; set++) {
      Hall h = hall.copy();
      boolean can = true;
      for (int q = 5; q >= 0; q--) if ((set & 1 << q) != 0) {
        if (q == p || q >= h.n() || !h.up[q]) can = false;
        else h.sit(q);
      }
      if (!can) continue;
      go(h, tray);
      if (h.placeOf(p) == 0 && (best < 0 || Integer.bitCount(set) < Integer.bitCount(best))) best = set;
    }
    return best < 0 ? -1 : what == 0 ? Integer.bitCount(best) : best;
  }

  private int roomCode(int tray, int p, int minute) {
    int c = night(tray, p);
    if (c != 0) return c;
    if (minute < 0 || minute > trays[tray].v.length) return -3;
    return hall.up[p] ? 0 : -5;
  }
  private List<Integer> roomList(int tray, int p, int minute) {
    List<Integer> all = new ArrayList<>();
    for (int s = 0; s < 100; s++) {
      Hall h = hall.copy();
      h.strength[p] = s;
      go(h, tray);
      int in = h.up[p] ? 0 : h.satIn[p] - hall.minutes;
      if (in == minute) all.add(s);
    }
    return all;
  }
  public int rooms(int tray, int p, int minute) {
    int c = roomCode(tray, p, minute);
    return c != 0 ? c : roomList(tray, p, minute).size();
  }
  public int bound(int tray, int p, int minute, int what) {
    if (what < 0 || what > 1) return -2;
    int c = roomCode(tray, p, minute);
    if (c != 0) return c;
    List<Integer> all = roomList(tray, p, minute);
    return all.isEmpty() ? -1 : all.get(what == 0 ? 0 : all.size() - 1);
  }
  public int next(int tray, int p, int minute) {
    int c = roomCode(tray, p, minute);
    if (c != 0) return c;
    List<Integer> all = roomList(tray, p, minute);
    if (all.isEmpty()) return -1;
    int best = -1, most = -1;
    for (int t = 0; t < told.odds.size(); t++) {
      int sit = 0, not = 0;
      for (int s : all) {
        Hall h = hall.copy();
        h.strength[p] = s;
        h.minute(t);
        if (h.up[p]) not++;
        else sit++;
      }
      if (Math.min(sit, not) > most) { most = Math.min(sit, not); best = t; }
    }
    return best;
  }

  private int waitCode(int p, int q, int tune, int bound) {
    if (!isP(p) || !isP(q) || p == q || !isT(tune)) return -2;
    if (bound < 0 || bound > 20) return -3;
    return hall.up[p] && hall.up[q] ? 0 : -5;
  }
  private int[] wins(int p, int q, int tune, int a, int b) {
    Hall h = hall.copy();
    for (int r = 0; r < h.n(); r++) h.up[r] = r == p || r == q;
    int startP = h.pain[p], startQ = h.pain[q], stoodP = 0, stoodQ = 0;
    if (a == 0) h.up[p] = false;
    if (b == 0) h.up[q] = false;
    for (int m = 1; m <= Math.max(a, b); m++) {
      h.minute(tune);
      if (h.up[p]) stoodP++;
      if (h.up[q]) stoodQ++;
      if (m == a) h.up[p] = false;
      if (m == b) h.up[q] = false;
    }
    return new int[] {told.worthOf(stoodP > stoodQ ? 0 : 1) - (h.pain[p] - startP),
      told.worthOf(stoodQ > stoodP ? 0 : 1) - (h.pain[q] - startQ)};
  }
  private List<Integer> restList(int p, int q, int tune, int bound) {
    int[][][] w = new int[bound + 1][bound + 1][];
    for (int a = 0; a <= bound; a++) for (int b = 0; b <= bound; b++) w[a][b] = wins(p, q, tune, a, b);
    List<Integer> all = new ArrayList<>();
    for (int a = 0; a <= bound; a++) for (int b = 0; b <= bound; b++) {
      boolean rest = true;
      for (int o = 0; o <= bound; o++) if (w[o][b][0] > w[a][b][0] || w[a][o][1] > w[a][b][1]) rest = false;
      if (rest) all.add(100 * a + b);
    }
    return all;
  }
  public int rests(int p, int q, int tune, int bound) {
    int c = waitCode(p, q, tune, bound);
    return c != 0 ? c : restList(p, q, tune, bound).size();
  }
  public int rest(int p, int q, int tune, int bound, int k) {
    int c = waitCode(p, q, tune, bound);
    if (c != 0) return c;
    if (k < 0) return -3;
    List<Integer> all = restList(p, q, tune, bound);
    return k < all.size() ? all.get(k) : -1;
  }

  /** The numbers above and below, as they come. */
  private BigInteger[] likely(int p, int n) {
    int all = 0;
    for (int o : told.odds) all += o;
    int[] seq = new int[all == 0 ? 0 : n];
    BigInteger above = BigInteger.ZERO, below = BigInteger.ZERO;
    do {
      BigInteger w = BigInteger.ONE;
      Hall h = hall.copy();
      for (int t : seq) {
        w = w.multiply(BigInteger.valueOf(told.odds.get(t)));
        h.minute(t);
      }
      below = below.add(w);
      if (h.placeOf(p) == 0) above = above.add(w);
    } while (count(seq, told.odds.size()));
    return new BigInteger[] {above, below};
  }
  public long chance(int p, int n, int what) {
    if (!isP(p) || what < 0 || what > 1) return -2;
    if (n < 0 || n > 6) return -3;
    BigInteger[] c = likely(p, n);
    return c[what].divide(c[0].gcd(c[1])).longValueExact();
  }
  public int chancellor(int n) {
    if (n < 0 || n > 6) return -3;
    int best = -1;
    BigInteger most = BigInteger.valueOf(-1);
    for (int p = 0; p < told.people.size(); p++) {
      BigInteger c = likely(p, n)[0];
      if (c.compareTo(most) > 0) { most = c; best = p; }
    }
    return best;
  }

  public int numbers(int tray, int sort, int n) {
    if (!isTray(tray) || sort < 0 || sort > 3) return -2;
    if (n < 0 || n > 40) return -3;
    trays[tray] = new Tray();
    trays[tray].sort = sort;
    trays[tray].v = new long[n];
    return 0;
  }
  public long write(int tray, int i, long v) {
    if (!isTray(tray)) return -2;
    if (trays[tray] == null) return -6;
    if (i < 0 || i >= trays[tray].v.length) return -7;
    int bits = 8 << trays[tray].sort;
    trays[tray].v[i] = v << (64 - bits) >> (64 - bits);
    return trays[tray].v[i];
  }
  public int lists(int tray, int p) {
    if (!isTray(tray) || !isP(p)) return -2;
    if (trays[tray] == null) return -6;
    if (!hall.up[p]) return -5;
    int[] s = shortest(aloneWish(p));
    if (s == null) return -5;
    int i = 0;
    for (; i < s.length && i < trays[tray].v.length; i++) trays[tray].v[i] = s[i];
    return i;
  }
  public int image(int i) {
    if (i < 0 || i > 1) return -2;
    images[i] = hall.copy();
    return 0;
  }
  public int restore(int i) {
    if (i < 0 || i > 1) return -2;
    if (images[i] == null) return -5;
    hall = images[i].copy();
    told = hall.told;
    past.clear();
    return 0;
  }
  public int count(int what) {
    switch (what) {
      case 0: return told.people.size();
      case 1: return told.odds.size();
      case 2: return told.offices.size();
      case 3: return hall.upBits();
      case 4: return hall.upCount();
      case 5: return hall.minutes;
      case 6: return Arrays.stream(hall.strength).sum();
      case 7: return told.odds.stream().mapToInt(o -> o).sum();
      case 8: return past.size();
      case 9: return tape.size();
      case 10: return told.lines;
      default: return -1;
    }
  }
}
