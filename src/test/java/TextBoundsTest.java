import java.util.Set;

/** Terms, the text of THE COURT and its FAULTS: each bound, the case below it and the case above it. */
public final class TextBoundsTest {
  private static final String WORDS = "who mark strength tune beside up minute court person odds office tires pains if then else end not and or";
  private static final String ATOM = "1 ( if who mark strength tune beside up minute";
  private static final String UNIT = ATOM + " not [";
  private static final String GOES_ON = "+ - *";
  private static final String LINE = "person tune office tires pains END";

  public static void main(String[] args) {
    mostBytes();
    withoutText();
    everyByteAsToken();
    everyByteBehindAWord();
    blanks();
    wholeWords();
    standing("tires");
    standing("pains");
    ends();
    strengths();
    marks();
    people();
    odds();
    tunes();
    offices();
    laterLaws();
    digits();
    firstAlongTheText();
    leastKind();
    courtOnce();
    sixWithin();
    sixWithinEnd();
    seventhOfAny();
    Check.end();
  }

  /** Terms: at most 900 bytes. */
  private static void mostBytes() {
    String text = "court;office 7;tune" + " ".repeat(880) + ";";
    StandRank x = new StandRank();
    Check.due("Terms, text: 900 bytes are fed", Check.feed(x, text), 900);
    Check.due("Terms, text: no more", x.feed(0, 0, 0, 0, 0), -5);
    Check.due("Terms, text: of 900 bytes", x.court(900), 3);
    Check.due("Terms, text: its last line", x.count(1), 1);
    Check.feed(x, text);
    Check.due("Terms, text: of 899 bytes", x.court(899), -32);
    Check.due("Terms, text: it ends there", x.fault(1), 899);
    Check.feed(x, text);
    Check.due("Terms, text: of 901 bytes", x.court(901), -3);
    Check.fine("Terms, text of one line", "court;", 1);
  }

  /** Terms: without one no PEOPLE, no TUNES, no OFFICES. */
  private static void withoutText() {
    StandRank x = new StandRank();
    for (int what = 0; what <= 2; what++) Check.due("Terms, without a text: count(" + what + ")", x.count(what), 0);
    Check.tell(x, "court;");
    for (int what = 0; what <= 2; what++) Check.due("Terms, text of no lines: count(" + what + ")", x.count(what), 0);
  }

  private static boolean isSign(int b) { return b != 0 && ";:+-*()[]=<>".indexOf(b) >= 0; }
  private static boolean isLetter(int b) { return b >= 'a' && b <= 'z'; }
  private static boolean isDigit(int b) { return b >= '0' && b <= '9'; }

  /** Terms, TOKENS: which bytes begin one, which are blanks. */
  private static void everyByteAsToken() {
    for (int b = 0; b < 256; b++) {
      String text = "court;" + (char) b;
      String label = "Terms, TOKENS: byte " + b;
      if (b == 10 || b == 32) Check.fine(label, text, 1);
      else if (isLetter(b) || isDigit(b) || isSign(b)) Check.faulty(label, text, 2, 6);
      else Check.faulty(label, text, 1, 6);
    }
  }

  /** Terms, TOKENS: as long as they go on. */
  private static void everyByteBehindAWord() {
    for (int b = 0; b < 256; b++) {
      String text = "court;tune" + (char) b + ";";
      String label = "Terms, TOKENS: a word and byte " + b;
      if (b == 10 || b == 32) Check.fine(label, text, 2);
      else if (isLetter(b)) Check.faulty(label, text, 2, 6);
      else if (b == ';') Check.faulty(label, text, 2, 11);
      else Check.faulty(label, text, isDigit(b) || isSign(b) ? 2 : 1, 10);
    }
    for (int b = 0; b < 256; b++) {
      String text = "court;office 4" + (char) b + ";";
      String label = "Terms, TOKENS: an N and byte " + b;
      if (b == 10 || b == 32 || isDigit(b)) Check.fine(label, text, 2);
      else if (b == ';') Check.faulty(label, text, 2, 15);
      else Check.faulty(label, text, isLetter(b) || isSign(b) ? 2 : 1, 14);
    }
    Check.fine("Terms, TOKENS: a sign doesn't go on", "court;tires:((1)+(2))*3;", 2);
    Check.faulty("Terms, TOKENS: two words", "court;tu ne;", 2, 6);
    Check.faulty("Terms, TOKENS: two N", "court;office 1 2;", 2, 15);
    Check.faulty("Terms, TOKENS: one word", "court;tuneodds 1;", 2, 6);
  }

  /** Terms, TOKENS: between them blanks, none or many. */
  private static void blanks() {
    Check.fine("Terms, blanks: none", "court;person strength 5mark 3mark 4;office 1;", 3);
    Check.fine("Terms, blanks: many", "  \n court \n\n ; \n person  strength \n 5  mark  3 ; \n\n ", 2);
    Check.faulty("Terms, blanks: 9 is none", "court;\ttune;", 1, 6);
    Check.faulty("Terms, blanks: 11 is none", "court;\u000btune;", 1, 6);
    Check.faulty("Terms, blanks: 13 is none", "court;\r\ntune;", 1, 6);
    Check.faulty("Terms, blanks: 160 is none", "court;\u00a0tune;", 1, 6);
  }

  /** Terms, TOKENS: a shorter or a longer word is another one. */
  private static void wholeWords() {
    String[] texts = {"^court;", "court;^person strength 1;", "court;person ^strength 1;", "court;person strength 1 ^mark 1;", "court;^tune;",
      "court;tune ^odds 1;", "court;^office 1;", "court;^tires : 1;", "court;^pains : 1;", "court;tires : ^who;", "court;tires : ^mark;",
      "court;tires : ^strength;", "court;tires : ^tune;", "court;tires : ^beside;", "court;tires : ^up;", "court;tires : ^minute;",
      "court;tires : ^if 1 = 1 then 1 else 2 end;", "court;tires : if ^not 1 = 1 then 1 else 2 end;",
      "court;tires : if 1 = 1 ^and 1 = 1 then 1 else 2 end;", "court;tires : if 1 = 1 ^or 1 = 1 then 1 else 2 end;",
      "court;tires : if 1 = 1 ^then 1 else 2 end;", "court;tires : if 1 = 1 then 1 ^else 2 end;", "court;tires : if 1 = 1 then 1 else 2 ^end;"};
    for (String text : texts) {
      int at = text.indexOf('^');
      String ahead = text.substring(0, at);
      int length = 0;
      while (isLetter(text.charAt(at + 1 + length))) length++;
      String word = text.substring(at + 1, at + 1 + length);
      String behind = text.substring(at + 1 + length);
      Check.fine("Terms, TOKENS: " + word, ahead + word + behind, text.startsWith("^") ? 1 : 2);
      Check.faulty("Terms, TOKENS: shorter than " + word, ahead + word.substring(0, length - 1) + behind, 2, at);
      Check.faulty("Terms, TOKENS: longer than " + word, ahead + word + "s" + behind, 2, at);
      Check.faulty("Terms, TOKENS: not quite " + word, ahead + word.substring(0, length - 1) + "q" + behind, 2, at);
      Check.faulty("Terms, TOKENS: its end alone, " + word, ahead + word.substring(1) + behind, 2, at);
      Check.faulty("Terms, TOKENS: capital " + word, ahead + word.toUpperCase(java.util.Locale.ROOT) + behind, 1, at);
    }
  }

  /** Terms, LINE, SUM, TRUTH: which TOKEN can stand where; FAULT 2: it can't stand there. */
  private static void standing(String law) {
    can("", "court");
    can("court ", ";");
    can("court;", LINE);
    can("court;tune;", LINE);
    can("court;person ", "strength");
    can("court;person strength ", "1");
    can("court;person strength 5 ", "mark ;");
    can("court;person strength 5 mark ", "1");
    can("court;person strength 5 mark 3 ", "mark ;");
    can("court;person strength 5;", LINE);
    can("court;tune ", "odds ;");
    can("court;tune odds ", "1");
    can("court;tune odds 3 ", "odds ;");
    can("court;office ", "1");
    can("court;office 3 ", ";");
    String head = "court;" + law + " ";
    can(head, ":");
    can(head + ": ", ATOM);
    for (String fact : "1 999 who mark strength tune beside up minute".split(" ")) can(head + ": " + fact + " ", GOES_ON + " ;");
    for (String sign : GOES_ON.split(" ")) can(head + ": 1 " + sign + " ", ATOM);
    for (String sign : GOES_ON.split(" ")) can(head + ": 1 " + sign + " 2 ", GOES_ON + " ;");
    can(head + ": ( ", ATOM);
    can(head + ": ( 1 ", GOES_ON + " )");
    can(head + ": ( 1 ) ", GOES_ON + " ;");
    can(head + ": if ", UNIT);
    can(head + ": if not ", UNIT);
    can(head + ": if [ ", UNIT);
    can(head + ": if ( ", ATOM);
    can(head + ": if ( 1 ) ", GOES_ON + " = < >");
    can(head + ": if 1 ", GOES_ON + " = < >");
    for (String sign : "= < >".split(" ")) can(head + ": if 1 " + sign + " ", ATOM);
    for (String sign : "= < >".split(" ")) can(head + ": if 1 " + sign + " 1 ", GOES_ON + " and or then");
    can(head + ": if not 1 = 1 ", GOES_ON + " and or then");
    can(head + ": if 1 = 1 and ", UNIT);
    can(head + ": if 1 = 1 or ", UNIT);
    can(head + ": if 1 = 1 or 2 = 2 and 3 = 3 ", GOES_ON + " and or then");
    can(head + ": if [ 1 = 1 ", GOES_ON + " and or ]");
    can(head + ": if [ 1 = 1 ] ", "and or then");
    can(head + ": if not [ 1 = 1 ] ", "and or then");
    can(head + ": if 1 = 1 then ", ATOM);
    can(head + ": if 1 = 1 then 1 ", GOES_ON + " else");
    can(head + ": if 1 = 1 then 1 else ", ATOM);
    can(head + ": if 1 = 1 then 1 else 2 ", GOES_ON + " end");
    can(head + ": if 1 = 1 then 1 else 2 end ", GOES_ON + " ;");
    can(head + ": 1;", LINE);
  }

  /** A TOKEN that can stand there lets the reading go on, to a byte with which none begins. */
  private static void can(String ahead, String allowed) {
    Set<String> fit = Set.of(allowed.split(" "));
    String label = "Terms, FAULT 2: behind <" + ahead + ">";
    for (String token : (WORDS + " 1 0 zz ; : + - * ( ) [ ] = < >").split(" ")) {
      boolean fits = fit.contains(token) || token.equals("0") && fit.contains("1");
      String text = ahead + token + " ?";
      if (fits) Check.faulty(label, text, 1, text.length() - 1);
      for (String behind : new String[] {" ?", "", ";", " ; ", ";tune;"}) {
        if (!fits) Check.faulty(label, ahead + token + behind, 2, ahead.length());
      }
    }
    if (!fit.contains("END")) Check.faulty(label + " the end", ahead, 2, ahead.length());
  }

  /** Terms, FAULT 2: the end's place is the text's length. */
  private static void ends() {
    Check.faulty("Terms, the end: nothing", "", 2, 0);
    Check.faulty("Terms, the end: blanks", "   ", 2, 3);
    Check.faulty("Terms, the end: no sign", "court;tune", 2, 10);
    Check.faulty("Terms, the end: blanks behind", "court;tune \n", 2, 12);
    StandRank x = new StandRank();
    Check.feed(x, "court;tune ;");
    Check.due("Terms, the end: cut ahead of what is told", x.court(11), -32);
    Check.due("Terms, the end: of the cut text", x.fault(1), 11);
    Check.feed(x, "court;office 123;");
    Check.due("Terms, the end: cut within an N", x.court(15), -32);
    Check.due("Terms, the end: cut within an N", x.fault(1), 15);
    Check.feed(x, "court;tunes");
    Check.due("Terms, the end: cut within a word", x.court(10), -32);
    Check.due("Terms, the end: cut within a word", x.fault(1), 10);
  }

  private static int told(String text, int p, int what) { return Check.told(text).person(p, what); }

  /** Terms, person: STRENGTH 0 to 99. */
  private static void strengths() {
    for (int n : new int[] {0, 1, 50, 98, 99}) {
      Check.due("Terms, strength " + n, told("court;person strength " + n + ";", 0, 0), n);
    }
    Check.faulty("Terms, strength above 99", "court;person strength 100;", 3, 22);
    Check.faulty("Terms, strength above 99", "court;person strength 999;", 3, 22);
    Check.faulty("Terms, strength above 99, and a sign too many", "court;person strength 100;;", 3, 22);
    Check.faulty("Terms, strength below 0", "court;person strength -1;", 2, 22);
    Check.faulty("Terms, strength of the sixth", "court;" + "person strength 99;".repeat(5) + "person strength 100;", 3, 6 + 95 + 16);
  }

  /** Terms, person: mark 0 to 9 (0; a later one strikes). */
  private static void marks() {
    Check.due("Terms, mark: without one", told("court;person strength 1;", 0, 1), 0);
    for (int n = 0; n <= 9; n++) Check.due("Terms, mark " + n, told("court;person strength 1 mark " + n + ";", 0, 1), n);
    Check.due("Terms, mark: a later one", told("court;person strength 1 mark 7 mark 0;", 0, 1), 0);
    Check.due("Terms, mark: a later one", told("court;person strength 1 mark 7 mark 0 mark 9;", 0, 1), 9);
    Check.due("Terms, mark: of another", told("court;person strength 1 mark 7;person strength 1;", 1, 1), 0);
    Check.due("Terms, mark: of the one", told("court;person strength 1 mark 7;person strength 1 mark 2;", 0, 1), 7);
    Check.faulty("Terms, mark above 9", "court;person strength 1 mark 10;", 3, 29);
    Check.faulty("Terms, mark above 9, though a later one strikes", "court;person strength 1 mark 10 mark 1;", 3, 29);
    Check.faulty("Terms, mark above 9, the later one", "court;person strength 1 mark 1 mark 10;", 3, 36);
    Check.faulty("Terms, mark below 0", "court;person strength 1 mark -1;", 2, 29);
  }

  /** Terms, person: numbered from 0 on, 6 at most; FAULT 4: the first TOKEN of a 7th. */
  private static void people() {
    StringBuilder s = new StringBuilder("court;");
    for (int n = 1; n <= 6; n++) {
      s.append("person strength ").append(10 + n).append(';');
      StandRank x = Check.told(s.toString());
      Check.due("Terms, people: " + n, x.count(0), n);
      for (int p = 0; p < n; p++) Check.due("Terms, people: numbered from 0 on", x.person(p, 0), 11 + p);
      Check.due("Terms, people: not one more", x.person(n, 0), -99000002);
    }
    int at = s.length();
    Check.faulty("Terms, a 7th person", s + "person strength 1;", 4, at);
    Check.faulty("Terms, a 7th person: its first token alone", s + "person", 4, at);
    Check.faulty("Terms, a 7th person: not its other tokens", s + "person strength 100 ?", 4, at);
    Check.faulty("Terms, a 7th person behind others", s + "tune;office 1;person strength 1;", 4, at + 14);
    Check.fine("Terms, six people and others", s + "tune;office 1;tires : 1;", 10);
  }

  private static int allOdds(String text) { return Check.told(text).count(7); }

  /** Terms, tune: odds 0 to 9 (1; later ones strike). */
  private static void odds() {
    Check.due("Terms, odds: without one", allOdds("court;tune;"), 1);
    for (int n = 0; n <= 9; n++) Check.due("Terms, odds " + n, allOdds("court;tune odds " + n + ";"), n);
    Check.due("Terms, odds: later ones", allOdds("court;tune odds 7 odds 0;"), 0);
    Check.due("Terms, odds: later ones", allOdds("court;tune odds 7 odds 0 odds 9;"), 9);
    Check.due("Terms, odds: of another", allOdds("court;tune odds 7;tune;"), 8);
    Check.faulty("Terms, odds above 9", "court;tune odds 10;", 3, 16);
    Check.faulty("Terms, odds above 9, though later ones strike", "court;tune odds 10 odds 1;", 3, 16);
    Check.faulty("Terms, odds above 9, the later one", "court;tune odds 1 odds 10;", 3, 23);
    Check.faulty("Terms, odds below 0", "court;tune odds -1;", 2, 16);
  }

  /** Terms, tune: numbered from 0 on, 4 at most; FAULT 4: the first TOKEN of a 5th. */
  private static void tunes() {
    for (int n = 0; n <= 4; n++) {
      StandRank x = Check.told("court;" + "tune;".repeat(n) + "person strength 50;tires : 10 + tune;");
      Check.due("Terms, tunes: " + n, x.count(1), n);
      for (int t = 0; t < n; t++) Check.due("Terms, tunes: numbered from 0 on", x.tires(0, t), 10 + t);
      Check.due("Terms, tunes: not one more", x.tires(0, n), -2);
    }
    String four = "court;" + "tune odds 2;".repeat(4);
    Check.faulty("Terms, a 5th tune", four + "tune;", 4, four.length());
    Check.faulty("Terms, a 5th tune: its first token alone", four + "tune", 4, four.length());
    Check.faulty("Terms, a 5th tune: not its other tokens", four + "tune odds 10;", 4, four.length());
    Check.faulty("Terms, a 5th tune behind others", four + "office 1;tune;", 4, four.length() + 9);
    Check.fine("Terms, tune in a law is not told", four + "tires : tune + tune;", 6);
  }

  /** Terms, office: of the next PLACE, 0 to 99 (without one: 0), 6 at most; FAULT 4: the first TOKEN of a 7th. */
  private static void offices() {
    StringBuilder s = new StringBuilder("court;");
    for (int n = 0; n <= 6; n++) {
      StandRank x = Check.told(s.toString());
      Check.due("Terms, offices: " + n, x.count(2), n);
      for (int place = 0; place < 6; place++) Check.due("Terms, office of the next place", x.office(place), place < n ? 40 + place : 0);
      if (n < 6) s.append("office ").append(40 + n).append(';');
    }
    int at = s.length();
    Check.faulty("Terms, a 7th office", s + "office 1;", 4, at);
    Check.faulty("Terms, a 7th office: its first token alone", s + "office", 4, at);
    Check.faulty("Terms, a 7th office: not its other tokens", s + "office 100;", 4, at);
    Check.faulty("Terms, a 7th office behind others", s + "tune;office 1;", 4, at + 5);
    for (int n : new int[] {0, 1, 98, 99}) Check.due("Terms, office " + n, Check.told("court;office " + n + ";").office(0), n);
    Check.faulty("Terms, office above 99", "court;office 100;", 3, 13);
    Check.faulty("Terms, office below 0", "court;office -1;", 2, 13);
    StandRank x = Check.told("court;office 5;person strength 1;office 6;tune;office 7;");
    for (int place = 0; place < 3; place++) Check.due("Terms, office: others between them", x.office(place), 5 + place);
  }

  /** Terms: later ones of tires, pains strike. */
  private static void laterLaws() {
    StandRank x = Check.told("court;person strength 50;tune;tires : 4;pains : 14;");
    Check.due("Terms, one law tires", x.tires(0, 0), 4);
    x = Check.told("court;tires : 4;pains : 14;person strength 50;tires : 5;pains : 15;tune;tires : 6;pains : 16;");
    Check.due("Terms, three laws tires", x.tires(0, 0), 6);
    x.play(0);
    Check.due("Terms, three laws tires: the minute", x.person(0, 0), 44);
    Check.due("Terms, three laws pains", x.person(0, 5), 16);
    x = Check.told("court;person strength 50;tune;tires : 5;");
    x.play(0);
    Check.due("Terms, without pains: 1", x.person(0, 5), 1);
    x = Check.told("court;person strength 50;tune;pains : 5;");
    x.play(0);
    Check.due("Terms, without tires: 1", x.person(0, 0), 49);
    Check.faulty("Terms, laws: a fault, though a later one strikes", "court;tires : ;tires : 1;", 2, 14);
    // as many as 900 bytes hold, and one as long, again and again
    StandRank y = new StandRank();
    for (int k = 1; k <= 5; k++) {
      Check.due("Terms, 104 laws", Check.tell(y, "court;person strength 50;tune;" + "tires:9;".repeat(104) + "tires:" + k + ";"), 108);
      Check.due("Terms, the last of 105 laws", y.tires(0, 0), k);
      Check.due("Terms, a long law", Check.tell(y, "court;person strength 50;tune;tires:" + "1-1+".repeat(214) + k + ";"), 4);
      Check.due("Terms, a long law", y.tires(0, 0), k);
      Check.due("Terms, a long law", Check.tell(y, "court;person strength 50;tune;tires:" + k + "*1".repeat(430) + ";"), 4);
      Check.due("Terms, a long law", y.tires(0, 0), k);
    }
  }

  /** Terms, N: 1 to 3 digits; FAULT 1: 4 digits and more, at their first. */
  private static void digits() {
    for (String n : "7 07 007".split(" ")) Check.due("Terms, N: " + n, told("court;person strength " + n + ";", 0, 0), 7);
    for (String n : "0 00 000".split(" ")) Check.due("Terms, N: " + n, told("court;person strength " + n + ";", 0, 0), 0);
    Check.due("Terms, N: 099", told("court;person strength 099;", 0, 0), 99);
    Check.due("Terms, N: 009", told("court;person strength 1 mark 009;", 0, 1), 9);
    for (String n : "0007 0000 1000 00000 99999999999999999999".split(" ")) {
      Check.faulty("Terms, N of 4 digits and more", "court;person strength " + n + ";", 1, 22);
      Check.faulty("Terms, N of 4 digits and more", "court;person strength 1 mark " + n + ";", 1, 29);
      Check.faulty("Terms, N of 4 digits and more", "court;tune odds " + n + ";", 1, 16);
      Check.faulty("Terms, N of 4 digits and more", "court;office " + n + ";", 1, 13);
      Check.faulty("Terms, N of 4 digits and more", "court;tires : 1 + " + n + ";", 1, 18);
    }
    for (int n : new int[] {0, 9, 10, 99, 100, 998, 999}) {
      StandRank x = Check.told("court;person strength 50;tune;tires : if " + n + " > who + " + n + " - 1 then " + n + " - " + n + " + 7 else 0 end;");
      Check.due("Terms, N in a law has no other bounds: " + n, x.tires(0, 0), 7);
    }
    StandRank x = Check.told("court;person strength 50;tune;tires : 999 - 900;");
    Check.due("Terms, N in a law: 999", x.tires(0, 0), 99);
    x = Check.told("court;person strength 50;tune;tires : 999 - 998;");
    Check.due("Terms, N in a law: 999", x.tires(0, 0), 1);
  }

  /** Terms, FAULTS: the first along the text. */
  private static void firstAlongTheText() {
    Check.faulty("Terms, first: 1 ahead of 2", "court;? tune tune;", 1, 6);
    Check.faulty("Terms, first: 2 ahead of 1", "court;tune tune ?;", 2, 11);
    Check.faulty("Terms, first: 3 ahead of 1", "court;office 100 ?", 3, 13);
    Check.faulty("Terms, first: 3 ahead of 2", "court;office 100 office", 3, 13);
    Check.faulty("Terms, first: 2 ahead of 3", "court;office office 100", 2, 13);
    Check.faulty("Terms, first: 4 ahead of 1", "court;" + "tune;".repeat(4) + "tune ?", 4, 26);
    Check.faulty("Terms, first: 1 ahead of 4", "court;" + "tune;".repeat(3) + "? tune;tune;", 1, 21);
    Check.faulty("Terms, first: 3 ahead of 4", "court;" + "tune;".repeat(3) + "tune odds 10;tune;", 3, 31);
    Check.faulty("Terms, first: 2 ahead of the end", "court tune", 2, 6);
    Check.faulty("Terms, first: of two of a kind", "court;office 100;office 101;", 3, 13);
    Check.faulty("Terms, first: of two of a kind", "?court;?", 1, 0);
  }

  /** Terms, FAULTS: of one TOKEN the least kind. */
  private static void leastKind() {
    Check.faulty("Terms, least: 1 of 1 and 2", "court;1000;", 1, 6);
    Check.faulty("Terms, least: 1 of 1 and 2", "1000", 1, 0);
    Check.faulty("Terms, least: 1 of 1 and 3", "court;office 1000;", 1, 13);
    Check.faulty("Terms, least: 2 of 2 and 3", "court;tune 100;", 2, 11);
    Check.faulty("Terms, least: 2 of 2 and 3", "court;person 100;", 2, 13);
    Check.faulty("Terms, least: 2 of 2 and 4, person", "court;" + "person strength 1;".repeat(6) + "tune person strength 1;", 2, 119);
    Check.faulty("Terms, least: 2 of 2 and 4, tune", "court;" + "tune;".repeat(4) + "office tune;", 2, 33);
    Check.faulty("Terms, least: 2 of 2 and 4, office", "court;" + "office 1;".repeat(6) + "tune office 1;", 2, 65);
    Check.faulty("Terms, least: 2 of 2 and 4, (", "court;tires : ((((((1(", 2, 21);
    Check.faulty("Terms, least: 2 of 2 and 4, [", "court;tires : (((((([", 2, 20);
    Check.faulty("Terms, least: 2 of 2 and 4, not", "court;tires : ((((((not", 2, 20);
    Check.faulty("Terms, least: 2 of 2 and 4, if", "court;tires : ((((((1 if", 2, 22);
  }

  /** Terms, FAULT 2: court must be told first, and once. */
  private static void courtOnce() {
    Check.faulty("Terms, court first: tune", "tune;court;", 2, 0);
    Check.faulty("Terms, court first: ;", ";court;", 2, 0);
    Check.faulty("Terms, court once", "court;court;", 2, 6);
    Check.faulty("Terms, court once", "court court;", 2, 6);
    Check.faulty("Terms, court once, behind a line", "court;tune;court;", 2, 11);
    Check.fine("Terms, court behind blanks", "\n court;", 1);
  }

  /** Terms: at most six of not [ ( if within one another; FAULT 4: a seventh. */
  private static void sixWithin() {
    for (int n = 1; n <= 6; n++) {
      Check.fine("Terms, within: " + n + " of (", "court;tires : " + "(".repeat(n) + "1" + ")".repeat(n) + ";", 2);
      Check.fine("Terms, within: if and " + (n - 1) + " of [", "court;tires : if " + "[".repeat(n - 1) + "1 = 1" + "]".repeat(n - 1)
        + " then 1 else 2 end;", 2);
      Check.fine("Terms, within: if and " + (n - 1) + " of not", "court;tires : if " + "not ".repeat(n - 1) + "1 = 1 then 1 else 2 end;", 2);
      Check.fine("Terms, within: " + n + " of if in its truth", "court;tires : " + "if ".repeat(n) + "1"
        + " = 1 then 1 else 2 end".repeat(n) + ";", 2);
      Check.fine("Terms, within: " + n + " of if behind then", "court;tires : " + "if 1 = 1 then ".repeat(n) + "1" + " else 2 end".repeat(n) + ";", 2);
      Check.fine("Terms, within: " + n + " of if behind else", "court;tires : " + "if 1 = 1 then 1 else ".repeat(n) + "1" + " end".repeat(n) + ";", 2);
    }
    Check.faulty("Terms, a seventh (", "court;tires : (((((((1)))))));", 4, 20);
    Check.faulty("Terms, a seventh [", "court;tires : if [[[[[[1 = 1]]]]]] then 1 else 2 end;", 4, 22);
    Check.faulty("Terms, a seventh not", "court;tires : if not not not not not not 1 = 1 then 1 else 2 end;", 4, 37);
    Check.faulty("Terms, a seventh if", "court;pains : if if if if if if if 1", 4, 32);
    Check.faulty("Terms, a seventh if behind then", "court;pains : " + "if 1 = 1 then ".repeat(7), 4, 14 + 6 * 14);
    Check.faulty("Terms, a seventh if behind else", "court;pains : " + "if 1 = 1 then 1 else ".repeat(7), 4, 14 + 6 * 21);
    Check.faulty("Terms, a seventh at its first sign", "court;tires : ((((((if", 4, 20);
  }

  /** Terms, within one another: what is closed counts no more. */
  private static void sixWithinEnd() {
    Check.fine("Terms, within: ( closed", "court;tires : ((((((1)+(1)+(1))))))+((((((1))))));", 2);
    Check.faulty("Terms, within: ( closed, then a seventh", "court;tires : ((((((1)+((1)))))));", 4, 24);
    Check.fine("Terms, within: [ closed", "court;tires : if [[[[[1=1] and [1=1]]]]] or [[[[[1=1]]]]] then 1 else 2 end;", 2);
    Check.faulty("Terms, within: [ closed, then a seventh", "court;tires : if [[[[[1=1] and [[", 4, 32);
    Check.fine("Terms, within: not ends with its UNIT", "court;tires : if not not not not not 1=1 and not not not not not 1=1 or not not not not not 1=1 then 1 else 2 end;", 2);
    Check.faulty("Terms, within: not, then a seventh", "court;tires : if not not not not not 1=1 and not not not not not not", 4, 65);
    Check.fine("Terms, within: not holds within its [", "court;tires : if not [not [not 1=1]] then 1 else 2 end;", 2);
    Check.faulty("Terms, within: not holds within its [", "court;tires : if not [not [not not", 4, 31);
    Check.fine("Terms, within: if closed", "court;tires : ((((( if 1=1 then 1 else 2 end + if 1=1 then 1 else 2 end )))));", 2);
    Check.faulty("Terms, within: if closed, then a seventh", "court;tires : ((((( if 1=1 then 1 else 2 end + if (1)", 4, 50);
    Check.faulty("Terms, within: a comparison's other side", "court;tires : if [[[[ (1) = (1) and ((", 4, 37);
    Check.fine("Terms, within: of another line", "court;tires : ((((((1))))));pains : ((((((1))))));tires : ((((((1))))));", 4);
  }

  /** Terms: all ways in which seven of not [ ( if follow on one another. */
  private static void seventhOfAny() {
    within("court;tires : ", 0, false);
  }

  private static void within(String ahead, int open, boolean truth) {
    for (String sign : new String[] {"(", "if", "[", "not"}) {
      if (!truth && (sign.equals("[") || sign.equals("not"))) continue;
      if (open == 6) Check.faulty("Terms, a seventh", ahead + sign, 4, ahead.length());
      else within(ahead + sign + " ", open + 1, !sign.equals("("));
    }
    if (open == 6) Check.faulty("Terms, six", ahead + "?", 1, ahead.length());
  }
}
