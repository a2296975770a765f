import java.io.IOException;
import java.math.BigInteger;
import java.nio.file.Files;
import java.nio.file.Path;
import java.util.Arrays;
import java.util.Random;

/**
 * Each sentence of the document that names a boundary (too small, too large, empty, full, a wrap-around, a refused
 * call) has a test of its own here, that tells its words: the last number that is allowed and the first that is not,
 * on both sides; what is refused, and that nothing is changed by it; of several refusals the one that is named first.
 */
public final class BoundaryTest {
  private static final int UNKNOWN = -1, OUTSIDE = -2, STATE = -3, FULL = -4, NONE = -9;
  private static final int ALL = (1 << 25) - 1;
  private static final int LEAST = Integer.MIN_VALUE, MOST = Integer.MAX_VALUE;
  private static final String CELLS = "abcdefghijklmnopqrstuvwxy";
  private static final String MOST_PARTS = "TWaWbWcWdWeWfOgOhOiFjFkFlNmNnMo0Mp1Mq2Mr3";

  private static String document = "";
  private static String sentence = "";
  private static int wrong = 0;

  private interface Call {
    long on(TiltTray t);
  }

  private interface Maker {
    TiltTray make();
  }

  // ---- how is tested

  private static void says(String place, String words) {
    sentence = place + " '" + words + "'";
    if (!document.contains(words)) tell("these words are not in the document");
  }

  private static void tell(String fault) {
    wrong++;
    System.out.println(sentence + ": " + fault);
  }

  private static void due(String call, long got, long want) {
    if (got != want) tell(call + " answered " + got + ", due is " + want);
  }

  private static void write(TiltTray t, String text) {
    t.wipe();
    for (char letter : text.toCharArray()) t.write(letter);
  }

  private static TiltTray written(String text) {
    TiltTray t = new TiltTray();
    write(t, text);
    return t;
  }

  private static TiltTray tray(String text) {
    TiltTray t = written(text);
    if (t.table() < 0) tell(text + " is no table");
    return t;
  }

  private static int bits(int... cells) {
    int bits = 0;
    for (int cell : cells) bits |= 1 << cell;
    return bits;
  }

  private static void places(String name, TiltTray t, int... cells) {
    for (int m = 0; m < cells.length; m++) due(name + ": marble(" + m + ", 1)", t.marble(m, 1), cells[m]);
  }

  private static void faultOf(String text, int want) {
    due("fault of " + text, written(text).fault(), want);
  }

  /** A call on what a maker makes: its answer, and that all that can be asked is as it would be without the call. */
  private static void still(String name, Maker maker, Call call, long want) {
    TiltTray tried = maker.make();
    due(name, call.on(tried), want);
    if (!allOf(tried).equals(allOf(maker.make()))) tell(name + " changes something");
  }

  private static void still(String name, Call call, long want) {
    still(name, BoundaryTest::busy, call, want);
  }

  /** All that a tray answers, by fewer than 400 calls; it is used up by them. */
  private static String allOf(TiltTray t) {
    StringBuilder all = new StringBuilder();
    askAll(t, all);
    all.append(" seed ").append(t.seed(4711)).append(" days ").append(t.days(30)).append(' ').append(t.seed(0));
    for (int left = t.count(10); left >= 0; left--) {
      all.append(" undo ").append(t.undo());
      askPlaces(t, all);
    }
    for (int slot = 0; slot < 2; slot++) {
      all.append(" again ").append(t.again(slot));
      askPlaces(t, all);
    }
    all.append(" table ").append(t.table());
    askPlaces(t, all);
    for (int what = 0; what < 12; what++) all.append(' ').append(t.count(what));
    return all.toString();
  }

  private static void askAll(TiltTray t, StringBuilder all) {
    for (int what = 0; what < 12; what++) all.append(' ').append(t.count(what));
    for (int cell = 0; cell < 25; cell++) {
      for (int what = 0; what < 4; what++) all.append(' ').append(t.cell(cell, what));
    }
    for (int m = 0; m < 4; m++) {
      for (int what = 0; what < 4; what++) all.append(' ').append(t.marble(m, what));
      for (int way = 0; way < 4; way++) all.append(' ').append(t.rolls(m, way)).append(' ').append(t.saves(m, way));
      all.append(' ').append(t.fewest(m, true)).append(' ').append(t.reach(m)).append(' ').append(t.share(m, true));
      all.append(' ').append(t.fails(m, 4, 2413, 3, true));
    }
    for (int n = 1; n < 5; n++) all.append(' ').append(t.best(n, true));
    all.append(' ').append(t.safe()).append(' ').append(t.rests(0)).append(' ').append(t.rests(1));
    all.append(' ').append(t.hidden()).append(' ').append(t.fault());
  }

  private static void askPlaces(TiltTray t, StringBuilder all) {
    for (int m = 0; m < 4; m++) all.append(' ').append(t.marble(m, 1));
    for (int what = 6; what < 11; what++) all.append(' ').append(t.count(what));
  }

  /** One that has fallen (0 at 102), an open hole (4), wall (3), felt (7), magnet (24), wedges (13, 14), and more. */
  private static TiltTray busy() {
    TiltTray t = tray("TWdOcOeFhNyMa0Mf1Mk2Mu3");
    t.tilt(1);
    t.wedge(13);
    t.wedge(14);
    t.keep(0);
    t.lift(1, 8);
    t.see(0, 1, 1);
    t.seed(77);
    write(t, "TW");
    return t;
  }

  private static TiltTray withFullText() {
    return written("T".repeat(48));
  }

  private static TiltTray withThreeWedges() {
    TiltTray t = busy();
    t.wedge(15);
    return t;
  }

  private static TiltTray withSixSeen() {
    TiltTray t = busy();
    for (int i = 0; i < 5; i++) t.see(i, 3, 20 + i);
    return t;
  }

  private static TiltTray withFourteenActs() {
    TiltTray t = busy();
    for (int i = 0; i < 10; i++) t.tilt(i % 4);
    return t;
  }

  // ---- What it is, Terms

  private static void lastCall() {
    says("What it is", "An object is used for at most 512 calls after it has been made");
    TiltTray t = tray("TMa2");
    for (int call = 7; call < 512; call++) t.tilt(call % 2);
    due("count(9), the 512th call", t.count(9), 505);
    t = tray("TMa2");
    for (int call = 7; call < 500; call++) t.tilt(call % 2);
    for (int left = 13; left > 1; left--) due("undo() among the last calls", t.undo(), left);
  }

  private static void laterCalls() {
    says("What it is", "what later calls answer is free");
    int[] edges = {LEAST, -33, -1, 0, 1, 2, 3, 4, 5, 6, 10, 11, 12, 24, 25, 26, 30, 31, 32, 33, 100, 125, 255, 256,
        MOST};
    Random drawn = new Random(512);
    TiltTray t = busy();
    for (int call = 0; call < 40000; call++) {
      int[] a = new int[4];
      for (int i = 0; i < 4; i++) a[i] = edges[drawn.nextInt(edges.length)];
      try {
        anyCall(t, drawn.nextInt(28), a);
      } catch (RuntimeException thrown) {
        tell("call " + call + " threw " + thrown);
      }
      if (call % 1000 == 999) write(t, call % 2000 == 999 ? MOST_PARTS : "TMa0Mg1Mm2Ms3ObOqOyFcNv");
    }
  }

  private static long anyCall(TiltTray t, int which, int[] a) {
    boolean flag = a[3] > 5;
    switch (which) {
      case 0: return t.write(a[0]);
      case 1: return a[0] == LEAST ? t.wipe() : t.count(a[1]);
      case 2: return t.fault();
      case 3: return t.table();
      case 4: return t.cell(a[0], a[1]);
      case 5: return t.marble(a[0], a[1]);
      case 6: return t.tilt(a[0]);
      case 7: return t.lift(a[0], a[1]);
      case 8: return t.wedge(a[0]);
      case 9: return t.undo();
      case 10: return t.rolls(a[0], a[1]);
      case 11: return t.safe();
      case 12: return t.fewest(a[0], flag);
      case 13: return t.reach(a[0]);
      case 14: return t.best(a[0], flag);
      case 15: return t.saves(a[0], a[1]);
      case 16: return t.judge(a[0], a[1] * (long) a[2]);
      case 17: return t.see(a[0], a[1], a[2]);
      case 18: return t.unsee();
      case 19: return t.hidden();
      case 20: return t.share(a[0], flag);
      case 21: return t.rests(a[0]);
      case 22: return t.fails(a[0], a[1], a[2], a[3], flag);
      case 23: return t.seed(a[0] * (long) a[1]);
      case 24: return t.days(a[0]);
      case 25: return t.keep(a[0]);
      case 26: return t.again(a[0]);
      default: return t.count(a[0]);
    }
  }

  private static void numbersOfRefusals() {
    says("Terms",
        "UNKNOWN (there is no such MARBLE, CELL, SLOT), OUTSIDE (another number is not as told), STATE (as told), "
        + "FULL");
    due("UNKNOWN", TiltTray.UNKNOWN, -1);
    due("OUTSIDE", TiltTray.OUTSIDE, -2);
    due("STATE", TiltTray.STATE, -3);
    due("FULL", TiltTray.FULL, -4);
    due("no such marble", busy().reach(4), -1);
    due("no such cell", busy().wedge(25), -1);
    due("no such slot", busy().keep(2), -1);
    due("another number", busy().tilt(4), -2);
    due("as told", busy().again(1), -3);
    due("full", withSixSeen().see(0, 0, 0), -4);
  }

  private static void firstNamed() {
    says("Terms", "REFUSALS, of several the first that a call names");
    still("write: OUTSIDE, not FULL", BoundaryTest::withFullText, t -> t.write(256), OUTSIDE);
    still("cell: UNKNOWN, not OUTSIDE", t -> t.cell(25, 4), UNKNOWN);
    still("marble: UNKNOWN, not OUTSIDE", t -> t.marble(4, 4), UNKNOWN);
    still("lift: UNKNOWN marble, not STATE", t -> t.lift(4, 3), UNKNOWN);
    still("lift: both UNKNOWN", t -> t.lift(4, 25), UNKNOWN);
    still("wedge: UNKNOWN, not FULL", BoundaryTest::withThreeWedges, t -> t.wedge(25), UNKNOWN);
    still("wedge: STATE, not FULL", BoundaryTest::withThreeWedges, t -> t.wedge(3), STATE);
    still("rolls: UNKNOWN, not OUTSIDE", t -> t.rolls(4, 4), UNKNOWN);
    still("saves: UNKNOWN, not OUTSIDE", t -> t.saves(4, 4), UNKNOWN);
    still("saves: OUTSIDE, not STATE", t -> t.saves(0, 4), OUTSIDE);
    still("see: UNKNOWN, not OUTSIDE", t -> t.see(25, 4, 26), UNKNOWN);
    still("see: UNKNOWN, not FULL", BoundaryTest::withSixSeen, t -> t.see(25, 0, 0), UNKNOWN);
    still("see: OUTSIDE way, not FULL", BoundaryTest::withSixSeen, t -> t.see(0, 4, 0), OUTSIDE);
    still("see: OUTSIDE came, not FULL", BoundaryTest::withSixSeen, t -> t.see(0, 0, 26), OUTSIDE);
    still("fails: UNKNOWN, not OUTSIDE", t -> t.fails(4, 5, 5, 11, true), UNKNOWN);
    still("again: UNKNOWN, not STATE", TiltTray::new, t -> t.again(2), UNKNOWN);
  }

  private static void refusedOneAfterAnother() {
    says("Terms", "What is refused changes nothing");
    Maker[] makers = {TiltTray::new, BoundaryTest::busy, BoundaryTest::withThreeWedges, BoundaryTest::withSixSeen,
        BoundaryTest::withFourteenActs};
    for (Maker maker : makers) still("all refused", maker, BoundaryTest::refuseAll, 0);
  }

  /** How many of these calls are not refused. */
  private static int refuseAll(TiltTray t) {
    long[] answers = {t.write(-1), t.write(256), t.table(), t.cell(25, 0), t.cell(0, 4), t.marble(4, 0),
        t.marble(-1, 4), t.tilt(4), t.tilt(-1), t.lift(4, 0), t.lift(0, 25), t.lift(-1, -1), t.wedge(25), t.wedge(-1),
        t.rolls(4, 0), t.fewest(4, true), t.reach(-1), t.best(0, true), t.best(5, false), t.saves(4, 0),
        t.judge(0, 0), t.judge(5, 0), t.judge(1, 1000), t.judge(1, -1), t.see(25, 0, 0), t.see(0, 4, 0),
        t.see(0, 0, 26), t.share(4, true), t.rests(2), t.fails(4, 1, 1, 1, true), t.days(0), t.days(31), t.keep(2),
        t.again(2), t.again(1), t.count(12)};
    int taken = 0;
    for (long answer : answers) if (answer < FULL || answer > UNKNOWN) taken++;
    return taken;
  }

  private static void none() {
    says("Terms", "NONE is -9");
    due("NONE", TiltTray.NONE, -9);
    due("no fault", written("T").fault(), -9);
    due("no marble there", new TiltTray().cell(0, 1), -9);
    due("no tilts", tray("TMa0").fewest(0, false), -9);
    due("no wedge", tray("TMa0Ob").saves(0, 1), -9);
    due("nothing that can not be", new TiltTray().judge(1, 0), -9);
  }

  private static void fractions() {
    says("Terms", "FRACTIONS are told above (upper = true; below 0, if they are), below (1 and more), in least terms");
    TiltTray t = tray("TMa0Mw2Mx0OkFo");
    due("below 0, above", t.share(1, true), -1);
    due("below 0, below", t.share(1, false), 6);
    t = tray("TMa0Mb0Mx1Mt1NyOe");
    due("12 of 24, above", t.share(0, true), 1);
    due("12 of 24, below", t.share(0, false), 2);
    due("0, above", t.share(2, true), 0);
    due("0, below", t.share(2, false), 1);
    due("8 of 10, above", t.fails(1, 1, 2, 2, true), 4);
    due("8 of 10, below", t.fails(1, 1, 2, 2, false), 5);
    due("1, above", t.fails(1, 1, 2, 0, true), 1);
    due("1, below", t.fails(1, 1, 2, 0, false), 1);
    due("0 of 10, above", t.fails(1, 1, 2, 10, true), 0);
    due("0 of 10, below", t.fails(1, 1, 2, 10, false), 1);
    due("0 of 10000, below", t.fails(2, 4, 1234, 5, false), 1);
  }

  private static void refusalsOfFractions() {
    says("Terms", "refusals of them are told likewise");
    still("share, above", t -> t.share(4, true), UNKNOWN);
    still("share, below", t -> t.share(4, false), UNKNOWN);
    still("fails, above", t -> t.fails(4, 1, 1, 1, true), UNKNOWN);
    still("fails, below", t -> t.fails(4, 1, 1, 1, false), UNKNOWN);
    still("fails, n, above", t -> t.fails(0, 0, 0, 1, true), OUTSIDE);
    still("fails, n, below", t -> t.fails(0, 0, 0, 1, false), OUTSIDE);
  }

  // ---- Terms 1: cells, ways, the text

  private static void lettersOfCells() {
    says("Terms 1", "A TRAY has 25 CELLS, told by letters a to y (a is 0, b 1, .. y 24)");
    for (int letter = 0; letter < 256; letter++) {
      int cell = CELLS.indexOf((char) letter);
      TiltTray t = written("TW" + (char) letter);
      due("fault behind W and letter " + letter, t.fault(), cell < 0 ? 2 : NONE);
      due("table with letter " + letter, t.table(), cell < 0 ? STATE : 100);
      due("the wall of letter " + letter, t.count(2), cell < 0 ? 0 : 1 << cell);
    }
  }

  private static void rims() {
    says("Terms 1", "WAYS: 0 left (1 less), 1 right (1 more), 2 back (5 less), 3 front (5 more), within ROW and TRAY");
    for (int cell = 0; cell < 25; cell++) {
      int row = cell / 5;
      int column = cell % 5;
      int[] near = {column > 0 ? cell - 1 : cell, column < 4 ? cell + 1 : cell, row > 0 ? cell - 5 : cell,
          row < 4 ? cell + 5 : cell};
      int[] far = {5 * row, 5 * row + 4, column, 20 + column};
      for (int way = 0; way < 4; way++) {
        due("wax at " + cell + ", way " + way, tray("TM" + CELLS.charAt(cell) + 2).rolls(0, way), near[way]);
        due("glass at " + cell + ", way " + way, tray("TM" + CELLS.charAt(cell) + 0).rolls(0, way), far[way]);
        due("contrary at " + cell + ", way " + way, tray("TM" + CELLS.charAt(cell) + 3).rolls(0, way), far[way ^ 1]);
      }
    }
  }

  private static void beside() {
    says("Terms 1", "Two CELLS are BESIDE, if they share a side");
    for (int magnet = 0; magnet < 25; magnet++) {
      for (int iron = 0; iron < 25; iron++) {
        if (iron == magnet) continue;
        boolean near = Math.abs(iron / 5 - magnet / 5) + Math.abs(iron % 5 - magnet % 5) == 1;
        TiltTray t = tray("TN" + CELLS.charAt(magnet) + "M" + CELLS.charAt(iron) + 1);
        due("magnet at " + magnet + ", iron at " + iron + " does not go", t.marble(0, 2) == 0 ? 1 : 0, near ? 1 : 0);
      }
    }
  }

  private static void lengthOfText() {
    says("Terms 1", "THE TEXT is letters (48 at most)");
    TiltTray t = written("T".repeat(47));
    due("the 48th", t.write('T'), 48);
    due("the 49th", t.write('T'), FULL);
    due("letters", t.count(0), 48);
  }

  private static void noPart() {
    says("Terms 1", "A TABLE is a TEXT: T, then PARTS, none or more");
    faultOf("", 0);
    faultOf("T", NONE);
    faultOf("TT", 1);
    due("no part", written("T").table(), 0);
    due("an empty text", new TiltTray().table(), STATE);
    for (int letter = 0; letter < 256; letter++) faultOf("" + (char) letter, letter == 'T' ? NONE : 0);
    for (int letter = 0; letter < 256; letter++) faultOf("T" + (char) letter, "WOFNM".indexOf(letter) < 0 ? 1 : 2);
  }

  private static void toldTwice() {
    says("Terms 1", "each at a CELL where no other one is told yet");
    String[] parts = {"Wm", "Om", "Fm", "Nm", "Mm0"};
    for (String one : parts) {
      for (String other : parts) {
        faultOf("T" + one + other, 2 + one.length());
        faultOf("T" + one + "Wa" + other, 4 + one.length());
        faultOf("T" + one + other.replace('m', 'l'), NONE);
        faultOf("T" + one + other.replace('m', 'n'), NONE);
      }
    }
  }

  /** So many of a part are allowed, and the next one's first letter is the fault. */
  private static void mostOf(String words, char part, String kind, int most) {
    says("Terms 1", words);
    StringBuilder text = new StringBuilder("T");
    for (int i = 0; i < most; i++) {
      text.append(part).append(CELLS.charAt(24 - i)).append(kind);
      faultOf(text.toString(), NONE);
    }
    faultOf(text.toString() + part, text.length());
    faultOf(text.toString() + part + "a" + kind, text.length());
    faultOf(text + "X", text.length());
    for (char other : "WOFN".toCharArray()) {
      if (other != part) faultOf(text.toString() + other + "a", NONE);
    }
  }

  private static void mostOfParts() {
    mostOf("a WALL (6 at most)", 'W', "", 6);
    mostOf("a HOLE (3 at most)", 'O', "", 3);
    mostOf("FELT (3 at most)", 'F', "", 3);
    mostOf("a MAGNET (2 at most)", 'N', "", 2);
    mostOf("a MARBLE (4 at most; numbered as they are told)", 'M', "0", 4);
    due("six walls", tray("TWaWbWcWdWeWf").count(2), bits(0, 1, 2, 3, 4, 5));
    due("all parts", written(MOST_PARTS).table(), 634);
    for (int letter = 0; letter < 256; letter++) faultOf(MOST_PARTS + (char) letter, 41);
  }

  private static void numbers() {
    says("Terms 1", "numbered as they are told");
    TiltTray t = tray("TMy3WaMc1OdMm2Mb0");
    places("as told", t, 24, 2, 12, 1);
    int[] kind = {3, 1, 2, 0};
    for (int m = 0; m < 4; m++) due("kind of " + m, t.marble(m, 0), kind[m]);
  }

  private static void kinds() {
    says("Terms 1", "of KIND k: 0 GLASS, 1 IRON, 2 WAX, 3 CONTRARY");
    for (int letter = 0; letter < 256; letter++) {
      boolean kind = letter >= '0' && letter <= '3';
      TiltTray t = written("TMa" + (char) letter);
      due("fault with kind " + letter, t.fault(), kind ? NONE : 3);
      due("table with kind " + letter, t.table(), kind ? 1 : STATE);
      due("kind told by " + letter, t.marble(0, 0), kind ? letter - '0' : UNKNOWN);
    }
  }

  private static void nothingRollsOnMagnets() {
    says("Terms 1", "a MAGNET (2 at most), on which nothing rolls");
    for (int kind = 0; kind < 3; kind++) places("kind " + kind, tilted("TMl" + kind + "Nm", 1), 11);
    places("contrary", tilted("TMl3Nm", 0), 11);
    due("nor is it lifted there", tray("TMa0Nm").lift(0, 12), STATE);
  }

  private static TiltTray tilted(String text, int... ways) {
    TiltTray t = tray(text);
    for (int way : ways) t.tilt(way);
    return t;
  }

  // ---- Terms 1: the fault, the table

  private static void firstFault() {
    says("Terms 1", "the place of the first letter by which THE TEXT can be no TABLE, whatever came behind it");
    faultOf("XWzQ", 0);
    faultOf("TXWz", 1);
    faultOf("TWzX", 2);
    faultOf("TMa9Wa", 3);
    faultOf("TWaX", 3);
    faultOf("TWaWaX", 4);
    TiltTray t = written("TWz");
    for (char letter : "WaMb0".toCharArray()) {
      t.write(letter);
      due("it stays the first", t.fault(), 2);
    }
  }

  private static void longFault() {
    says("Terms 1", "(its length set aside)");
    faultOf(MOST_PARTS + "WWWWWWW", 41);
    faultOf("X".repeat(48), 0);
    faultOf("T".repeat(48), 1);
    due("the longest table", MOST_PARTS.length(), 41);
    due("is one", written(MOST_PARTS).table(), 634);
  }

  private static void notAtItsEnd() {
    says("Terms 1", "its length, if it is only not at its end; NONE: none");
    String text = "TWaMb0OcM";
    int[] want = {0, NONE, 2, NONE, 4, 5, NONE, 7, NONE, 9};
    for (int letters = 0; letters <= text.length(); letters++) faultOf(text.substring(0, letters), want[letters]);
  }

  private static void atFirst() {
    says("Terms 1", "At first there is nothing.");
    TiltTray t = new TiltTray();
    for (int what = 0; what < 12; what++) due("count(" + what + ")", t.count(what), 0);
    for (int what = 0; what < 4; what++) due("cell(24, " + what + ")", t.cell(24, what), what == 1 ? NONE : 0);
  }

  private static void madeAnew() {
    says("Terms 1", "When THE TABLE is made anew, no HOLE is FULL, nothing is WEDGED, no TILT was made.");
    TiltTray t = tilted("TMa0ObOy", 1);
    t.wedge(12);
    due("full before", t.count(7), bits(1));
    due("table, the same text", t.table(), 21);
    due("full", t.count(7), 0);
    due("wedged", t.count(8), 0);
    due("tilts", t.count(9), 0);
    places("where it was told", t, 0);
    write(t, "T");
    due("table, an empty one", t.table(), 0);
    due("marbles", t.count(1), 0);
    due("their cells", t.count(6), 0);
    due("holes", t.count(3), 0);
    String[] between = {"", "T", "TWa"};
    for (String text : between) {
      t = tray("TMa0Ml1NmMx0");
      write(t, text);
      t.table();
      write(t, "TMk1");
      due("table, a smaller one", t.table(), 1);
      due("no second marble", t.cell(11, 1), NONE);
      due("no third marble", t.cell(23, 1), NONE);
      due("no magnet", t.rolls(0, 1), 14);
    }
  }

  private static void whereOneCanBe() {
    says("Terms 1", "A MARBLE can be at a CELL of no WALL, no MAGNET, where no other one is, and that is not WEDGED.");
    places("before a wall", tilted("TMk0Wm", 1), 11);
    places("before a magnet", tilted("TMk0Nm", 1), 11);
    places("before another one", tilted("TMk0Mm1Nh", 1), 11, 12);
    TiltTray t = tray("TMk0");
    t.wedge(12);
    t.tilt(1);
    places("before a wedge", t, 11);
    t.wedge(12);
    t.tilt(1);
    places("wedged no more", t, 14);
    places("on felt", tilted("TMk0FmWn", 1), 12);
    places("on a full hole", tilted("TMa2Mb0Oc", 1, 1), 2, 102);
  }

  // ---- Terms 1: tilts

  private static void rounds() {
    says("Terms 1", "rounds are made until nobody went in one");
    places("four, the hindmost first", tilted("TMa0Mb0Mc0Md0", 1), 1, 2, 3, 4);
    places("four, the foremost first", tilted("TMd0Mc0Mb0Ma0", 1), 4, 3, 2, 1);
    places("four in a column", tilted("TMa0Mf0Mk0Mp0", 3), 5, 10, 15, 20);
    places("the longest way", tilted("TMa0", 1), 4);
    places("nobody can go", tilted("TMa0Mb1Mf2My3", 0), 0, 1, 5, 24);
    places("it waits till it can go", tilted("TMa0Mb0Mc2", 1), 1, 2, 3);
    places("no marble", tilted("TWa", 1));
    places("a round in which the first one does not go", tilted("TMa2Mb0", 1), 1, 4);
  }

  private static void byNumber() {
    says("Terms 1",
        "in each, by number, each MARBLE on THE TRAY that is not STOPPED goes 1 CELL that way (CONTRARY: the "
        + "opposite way)");
    places("glass comes first", tilted("TMa0Mc3", 1), 1, 2);
    places("contrary comes first", tilted("TMc3Ma0", 1), 1, 0);
    places("glass falls first", tilted("TMa0Mc3Ob", 1), 101, 0);
    places("contrary falls first", tilted("TMc3Ma0Ob", 1), 101, 4);
    places("contrary, left", tilted("TMm3", 0), 14);
    places("contrary, right", tilted("TMm3", 1), 10);
    places("contrary, back", tilted("TMm3", 2), 22);
    places("contrary, front", tilted("TMm3", 3), 2);
  }

  private static void waxOnce() {
    says("Terms 1", "A WAX one is STOPPED when it went once.");
    places("once", tilted("TMa2", 1), 1);
    places("twice by two tilts", tilted("TMa2", 1, 1), 2);
    places("none at the rim", tilted("TMe2", 1), 4);
    places("in a later round", tilted("TMa2Mb0", 1), 1, 4);
    places("behind one that does not go", tilted("TMa2Mb1Ng", 1), 0, 1);
  }

  private static void holesTakeOne() {
    says("Terms 1",
        "One that comes to a HOLE that is not FULL falls: it is IN it, no more on THE TRAY, and the HOLE is FULL "
        + "(one that is FULL is as any other CELL).");
    TiltTray t = tilted("TMa0Mb0Od", 1);
    places("one falls, the other goes over it", t, 4, 103);
    due("full", t.cell(3, 2), 1);
    due("nobody there", t.cell(3, 1), NONE);
    due("on the tray", t.count(6), bits(4));
    t.tilt(0);
    places("back over it", t, 0, 103);
    t = tilted("TMa2Mb0Od", 1, 1, 1);
    places("one comes to rest on it", t, 3, 103);
    due("who is there", t.cell(3, 1), 0);
    t.tilt(1);
    places("and goes on", t, 4, 103);
    for (int kind = 0; kind < 3; kind++) places("kind " + kind, tilted("TMl" + kind + "Om", 1), 112);
    places("contrary", tilted("TMl3Om", 0), 112);
    places("at the first cell", tilted("TMb0Oa", 0), 100);
    places("at the last cell", tilted("TMx0Oy", 1), 124);
    t = tilted("TMa0Mf0Mk0Mp0ObOgOl", 1);
    places("three holes", t, 101, 106, 111, 19);
    due("all three are full", t.count(7), bits(1, 6, 11));
  }

  private static void felt() {
    says("Terms 1", "One that comes to FELT is STOPPED there (GLASS goes on).");
    places("glass", tilted("TMk0Fm", 1), 14);
    places("iron", tilted("TMk1Fm", 1), 12);
    places("wax", tilted("TMl2Fm", 1), 12);
    places("contrary", tilted("TMo3Fm", 1), 12);
    places("iron off it again", tilted("TMk1Fm", 1, 1), 14);
    places("contrary off it again", tilted("TMo3Fm", 1, 1), 10);
    places("felt beside felt", tilted("TMk1FlFm", 1), 11);
    places("felt beside felt, then", tilted("TMk1FlFm", 1, 1), 12);
    places("glass rests on it", tilted("TMk0FmWn", 1), 12);
  }

  private static void iron() {
    says("Terms 1",
        "An IRON one that comes to a CELL BESIDE a MAGNET is STOPPED there; one that is BESIDE a MAGNET ahead of "
        + "the TILT does not go at all.");
    places("it comes by", tilted("TMk1Nh", 1), 12);
    for (int way = 0; way < 4; way++) places("it does not go, way " + way, tilted("TMm1Nh", way), 12);
    for (int kind = 0; kind < 4; kind += 2) due("kind " + kind + " goes", tray("TMm" + kind + "Nh").marble(0, 2), 11);
    places("contrary goes by", tilted("TMo3Nh", 1), 10);
    places("it falls beside one", tilted("TMk1NhOm", 1), 112);
    places("between two", tilted("TMl1NgNq", 1), 11);
    TiltTray t = tray("TMa1Nh");
    t.lift(0, 2);
    due("lifted there", t.marble(0, 2), 0);
    t.lift(0, 22);
    due("lifted off", t.rolls(0, 2), 12);
  }

  // ---- Terms 1: acts

  private static void lifted() {
    says("Terms 1",
        "LIFTED: a MARBLE is at a CELL where it can be, that is no HOLE that is not FULL (one that is IN a HOLE, "
        + "too: that is not FULL any more).");
    TiltTray t = tray("TMa0Mf0ObOg");
    due("an open hole", t.lift(0, 6), STATE);
    t.tilt(1);
    places("both are in", t, 101, 106);
    due("upon another one's hole", t.lift(0, 6), 101);
    due("full still, and not any more", t.count(7), bits(6));
    due("both at the same cell", t.cell(6, 1), 0);
    due("the other one's own hole", t.lift(1, 6), STATE);
    due("a hole that is open now", t.lift(1, 1), STATE);
    due("out", t.lift(1, 24), 106);
    due("no hole is full", t.count(7), 0);
    due("on the tray", t.count(6), bits(6, 24));
    t = tilted("TMb0Oa", 0);
    due("out of the hole at the first cell", t.lift(0, 12), 100);
    due("that is not full", t.count(7), 0);
    t = tilted("TMx0Oy", 1);
    due("out of the hole at the last cell", t.lift(0, 12), 124);
    due("that is not full", t.count(7), 0);
  }

  private static void wedgedAtMost() {
    says("Terms 1",
        "WEDGED: a CELL at which nothing was told but MARBLES, and none is now, is so, or is not any more (3 at "
        + "most).");
    TiltTray t = tray("TMa0WbOcFdNe");
    for (int cell = 0; cell < 5; cell++) due("wedge(" + cell + ")", t.wedge(cell), STATE);
    t.tilt(3);
    due("where a marble was told", t.wedge(0), 1);
    due("where one is now", t.wedge(20), STATE);
    due("second", t.wedge(5), 1);
    due("third", t.wedge(24), 1);
    due("fourth", t.wedge(6), FULL);
    due("not any more", t.wedge(24), 0);
    due("third again", t.wedge(6), 1);
    due("wedged", t.count(8), bits(0, 5, 6));
  }

  private static void fullHoleIsNotWedged() {
    says("Terms 1", "a CELL at which nothing was told but MARBLES");
    TiltTray t = tilted("TMa0Ob", 1);
    due("a hole that is full", t.wedge(1), STATE);
    due("a hole that is not", tray("TMa0Ob").wedge(1), STATE);
  }

  private static void fourteenActs() {
    says("Terms 1",
        "ACTS (TILTED, LIFTED, WEDGED) are a row (14 at most; of more the first one is forgotten); the last one "
        + "can be undone.");
    for (int acts = 13; acts <= 45; acts++) {
      TiltTray t = tray("TMa0");
      for (int act = 1; act <= acts; act++) t.lift(0, act % 25);
      int left = Math.min(acts, 14);
      due("acts of " + acts, t.count(10), left);
      for (int act = acts - 1; left > 0; act--) {
        left--;
        due("undo of " + acts, t.undo(), left);
        due("where it was, of " + acts, t.marble(0, 1), act % 25);
      }
      due("none is left of " + acts, t.undo(), STATE);
      due("none is left, count(10)", t.count(10), 0);
    }
  }

  private static void undoneOfEachKind() {
    says("Terms 1", "the last one can be undone");
    TiltTray t = tray("TMa0Ob");
    t.wedge(24);
    t.wedge(24);
    t.tilt(1);
    t.lift(0, 12);
    due("lift", t.undo(), 3);
    due("in again", t.marble(0, 1), 101);
    due("full again", t.cell(1, 2), 1);
    due("tilt", t.undo(), 2);
    due("out again", t.marble(0, 1), 0);
    due("not full again", t.cell(1, 2), 0);
    due("tilts", t.count(9), 0);
    due("wedged no more", t.undo(), 1);
    due("wedged again", t.cell(24, 3), 1);
    due("wedged", t.undo(), 0);
    due("not wedged", t.cell(24, 3), 0);
  }

  // ---- Terms 2

  private static void askingChangesNothing() {
    says("Terms 2", "In what follows nothing is changed.");
    still("rolls", t -> t.rolls(1, 0), 7);
    still("safe", t -> t.safe(), 15);
    still("fewest", t -> t.fewest(0, false), 0);
    still("reach", t -> t.reach(0), 0);
    still("best", t -> t.best(1, false), 1);
    still("saves", t -> t.saves(1, 1), 25);
    still("judge", t -> t.judge(4, 115002113003L), NONE);
    still("hidden", t -> t.hidden(), 0);
    still("share", t -> t.share(0, true), 1);
    still("rests, all but the alike, behind right only back", t -> t.rests(0), 10);
    still("rests, the first", t -> t.rests(1), 1);
    still("fails", t -> t.fails(0, 4, 1234, 5, true), 1);
    still("fault", t -> t.fault(), 2);
    still("count", t -> t.count(7), bits(2));
    still("cell", t -> t.cell(8, 1), 1);
    still("marble", t -> t.marble(3, 1), 20);
  }

  private static void restsAt() {
    says("Terms 2", "where a MARBLE is behind a TILT (100 and the HOLE's CELL, if it is IN one)");
    due("at the first cell", tray("TMe0").rolls(0, 0), 0);
    due("at the last cell", tray("TMu0").rolls(0, 1), 24);
    due("in a hole at the first", tray("TMe0Oa").rolls(0, 0), 100);
    due("in a hole at the last", tray("TMu0Oy").rolls(0, 1), 124);
    due("in already", tilted("TMa0Ob", 1).rolls(0, 0), 101);
  }

  private static void safeWays() {
    says("Terms 2", "SAFE: WAYS (bits) by which nobody falls that is on THE TRAY.");
    due("nobody falls", tray("TMm0").safe(), 15);
    due("no marble", tray("TOa").safe(), 15);
    due("by each way one falls", tray("TMm0OlOnOhMs3").safe(), 0);
    due("one that is in does not fall", tilted("TMm0On", 1).safe(), 15);
  }

  private static void fewestUpToFive() {
    says("Terms 2", "FEWEST for a MARBLE: the fewest TILTS (0 to 5) by which it is IN a HOLE");
    TiltTray t = tilted("TMa2Ob", 1);
    due("none", t.fewest(0, false), 0);
    due("one", tray("TMa2Ob").fewest(0, false), 1);
    due("five", tray("TMa2Oj").fewest(0, false), 5);
    due("six are too many", tray("TMa2Oo").fewest(0, false), NONE);
    due("no hole", tray("TMa2").fewest(0, false), NONE);
    t = tilted("TMa0Mk2Ob", 1);
    due("the one hole is full", t.fewest(1, false), NONE);
  }

  private static void firstFewest() {
    says("Terms 2", "the first such row (figures, WAYS and 1; the least as a number; 0 for none); NONE");
    due("none", tilted("TMa2Ob", 1).fewest(0, true), 0);
    due("left", tray("TMb2Oa").fewest(0, true), 1);
    due("right", tray("TMa2Ob").fewest(0, true), 2);
    due("back", tray("TMf2Oa").fewest(0, true), 3);
    due("front", tray("TMa2Of").fewest(0, true), 4);
    due("24, not 42", tray("TMa2Og").fewest(0, true), 24);
    due("five", tray("TMa2Oj").fewest(0, true), 22224);
    due("five, the other corner", tray("TMy2Op").fewest(0, true), 11113);
    due("six", tray("TMa2Oo").fewest(0, true), NONE);
    due("one is fewer than two", tray("TMb2OfOc").fewest(0, true), 2);
  }

  private static void reachUpToFour() {
    says("Terms 2", "CELLS (bits) at which it rests behind 0 to 4 TILTS (those where it is on THE TRAY)");
    int near = 0;
    for (int cell = 0; cell < 25; cell++) if (cell / 5 + cell % 5 <= 4) near |= 1 << cell;
    due("wax, four cells far", tray("TMa2").reach(0), near);
    due("it can not go", tray("TMm1Nh").reach(0), bits(12));
    due("not the hole's", tray("TMa2WfOb").reach(0), bits(0));
    due("in a hole", tilted("TMa2Ob", 1).reach(0), 0);
    due("behind 0 tilts", tray("TMg0").reach(0), bits(6, 5, 9, 1, 21, 0, 4, 20, 24));
    due("at the full hole", tilted("TMa2Mb2Oc", 1).reach(0) & bits(2), bits(2));
  }

  private static void bestOfTilts() {
    says("Terms 2", "BEST of n TILTS (1 to 4): how many are IN HOLES at most; the first such row (figures as above).");
    TiltTray t = tray("TMa2Oe");
    due("three are too few", t.best(3, false), 0);
    due("then the first row", t.best(3, true), 111);
    due("four are enough", t.best(4, false), 1);
    due("their row", t.best(4, true), 2222);
    due("five would be", tray("TMa2Oj").best(4, false), 0);
    due("one", tray("TMa2Ob").best(1, true), 2);
    due("the first of more", tray("TMa2Ob").best(4, true), 1112);
    due("no marble", new TiltTray().best(4, false), 0);
    due("no marble, the row", new TiltTray().best(4, true), 1111);
    due("three holes of four marbles", tray("TMa0Mf0Mk0Mp0ObOgOl").best(1, false), 3);
    due("such as are in already", tilted("TMa0Mf0Mk0Mp0ObOgOl", 1).best(1, true), 1);
  }

  private static void savesAtBothEnds() {
    says("Terms 2",
        "the least CELL that can be WEDGED now (and is not), by which, so, it does not fall by that TILT; 25: it "
        + "does not fall as it is; NONE");
    due("as it is", tray("TMa0").saves(0, 1), 25);
    due("the least of three", tray("TMa0Oe").saves(0, 1), 1);
    due("beside the hole", tray("TMa0Ob").saves(0, 1), NONE);
    due("felt can not be wedged", tray("TMa0FbFcFdOe").saves(0, 1), NONE);
    TiltTray t = tilted("TMc0Me0Ob", 0);
    t.lift(1, 1);
    t.lift(0, 4);
    due("cell 0, by which another one stays on the hole", t.saves(0, 0), 0);
    t = tilted("TMs0Mu0OxFvFw", 3);
    t.lift(1, 23);
    t.lift(0, 20);
    due("cell 24, by which another one stays on the hole", t.saves(0, 1), 24);
    t = tray("TMk0Oo");
    t.wedge(0);
    t.wedge(1);
    due("two wedges are", t.saves(0, 1), 11);
    t.wedge(2);
    due("three wedges are", t.saves(0, 1), NONE);
    due("three wedges are, it does not fall", t.saves(0, 0), 25);
    t = tray("TMo3Mk0Om");
    due("the other one falls first", t.saves(1, 1), 25);
    t.wedge(13);
    due("by what is wedged already it falls", t.saves(1, 1), 11);
  }

  private static void judgedFigures() {
    says("Terms 2",
        "told as three figures each (0, 0, a way: TILTED; 1 and two figures of a CELL: WEDGED, or not any more; "
        + "2, a MARBLE, a figure v: it is IN a HOLE (v = 1), or not (0))");
    for (int figures = 0; figures < 1000; figures++) {
      boolean tilt = figures <= 3;
      boolean wedge = figures >= 101 && figures <= 124 && figures != 112;
      boolean not = figures == 200 || figures == 210;
      due("judge(1, " + figures + ")", tray("TMa0Mm1").judge(1, figures), tilt || wedge || not ? NONE : 0);
    }
    TiltTray t = tilted("TMa0Mf0Mk0Mp0ObOgOl", 1);
    int[] so = {201, 211, 221, 230};
    for (int m = 0; m < 4; m++) {
      due("so, marble " + m, t.judge(1, so[m]), NONE);
      due("not so, marble " + m, t.judge(1, so[m] ^ 1), 0);
    }
    due("no fifth marble", t.judge(1, 240), 0);
    due("no fifth marble, in", t.judge(1, 241), 0);
  }

  private static void judgedPlaces() {
    says("Terms 2", "the place of the first that can not be (or is not so); NONE: none");
    TiltTray t = tray("TMa0Oe");
    due("none of four", t.judge(4, 123003002001L), NONE);
    due("the first", t.judge(4, 300003002001L), 0);
    due("the second", t.judge(4, 123300002001L), 1);
    due("the third", t.judge(4, 123003300001L), 2);
    due("the fourth", t.judge(4, 123003002300L), 3);
    due("the first of several", t.judge(4, 123300300300L), 1);
    due("a fourth wedge", t.judge(4, 110111112113L), 3);
    due("it is wedged no more", t.judge(4, 110111110113L), NONE);
    due("a wedge at the marble's cell", t.judge(2, 100003L), 0);
    due("behind the tilt it can be", t.judge(2, 3100L), NONE);
    due("in behind the tilt", t.judge(2, 1201L), NONE);
    due("in ahead of the tilt", t.judge(2, 201001L), 0);
  }

  // ---- Terms 3

  private static void sixSeen() {
    says("Terms 3", "6 such at most, none at first");
    TiltTray t = new TiltTray();
    due("none", t.count(11), 0);
    due("none to forget", t.unsee(), 0);
    for (int i = 1; i <= 6; i++) due("see", t.see(0, 1, 4), i);
    due("the seventh", t.see(0, 1, 4), FULL);
    due("seen", t.count(11), 6);
  }

  private static void cameOrFell() {
    says("Terms 3",
        "that a lone GLASS marble, put at a CELL, behind a TILT a way, was at a CELL (0 to 24), or fell (25)");
    due("at the first", hiddenBy("T", 4, 0, 0), ALL - 31);
    due("at the last", hiddenBy("T", 20, 1, 24), ALL - (31 << 20));
    due("fell", hiddenBy("TOy", 20, 1, 25), ALL - (31 << 20));
    due("fell, where there is no hole", hiddenBy("T", 20, 1, 25), 0);
    due("was at the hole", hiddenBy("TOy", 20, 1, 24), 0);
    due("goes over felt", hiddenBy("TFb", 0, 1, 4), ALL - 31);
    due("goes by a magnet", hiddenBy("TNg", 0, 1, 4), ALL - 31 - bits(6));
  }

  private static int hiddenBy(String text, int cell, int way, int came) {
    TiltTray t = tray(text);
    due("see", t.see(cell, way, came), 1);
    return t.hidden();
  }

  private static void hiddenCells() {
    says("Terms 3",
        "CELLS (bits) at which nothing is told but MARBLES, one WALL at one of which (MARBLES, WEDGES set aside, "
        + "no HOLE FULL) would do for all that is SEEN");
    due("nothing is seen, nothing told", new TiltTray().hidden(), ALL);
    due("nothing is seen", tray("TWaObFcNdMe0").hidden(), ALL - 15);
    due("a seventh wall", tray("TWaWbWcWdWeWf").hidden(), ALL - 63);
    due("a marble on the way", hiddenBy("TMc0", 0, 1, 4), ALL - 31);
    TiltTray t = tilted("TMa0Oc", 1);
    t.wedge(1);
    t.see(0, 1, 25);
    due("a wedge on the way, a full hole", t.hidden(), ALL - 7);
    t.see(20, 1, 20);
    due("all that is seen", t.hidden(), bits(21));
    t.see(20, 2, 20);
    due("two walls would be", t.hidden(), 0);
    t.unsee();
    due("nothing is seen any more", t.hidden(), ALL - bits(2));
  }

  private static void putThere() {
    says("Terms 3", "(none is put there itself, nor at a WALL, a MAGNET, a HOLE)");
    due("at the cell itself", hiddenBy("T", 12, 0, 12), bits(11));
    due("at the rim", hiddenBy("T", 0, 0, 0), ALL - 1);
    due("at a wall", hiddenBy("TWa", 0, 0, 0), 0);
    due("at a magnet", hiddenBy("TNa", 0, 0, 0), 0);
    due("at a hole", hiddenBy("TOa", 0, 0, 0), 0);
    due("at a hole, fell", hiddenBy("TOa", 0, 0, 25), 0);
    due("at felt", hiddenBy("TFa", 0, 0, 0), ALL - 1);
    due("at a marble's cell", hiddenBy("TMa0", 0, 0, 0), ALL - 1);
  }

  private static void shareOf(String name, TiltTray t, int marble, int above, int below) {
    due(name + ", above", t.share(marble, true), above);
    due(name + ", below", t.share(marble, false), below);
  }

  private static void shares() {
    says("Terms 3", "(others are not there; HOLES that are FULL stay so)");
    shareOf("one alone", tray("TMa0Ob"), 0, 1, 1);
    TiltTray t = tray("TMa0Mb0Mc0Md0Oe");
    for (int m = 0; m < 4; m++) shareOf("four and one hole", t, m, 1, 4);
    t.tilt(1);
    shareOf("the hole is full", t, 0, 0, 1);
    shareOf("the one that is in it", t, 3, 1, 1);
    shareOf("one in the way is not there", tray("TMa0Mb1NgOe"), 0, 1, 2);
    shareOf("two tilts", tray("TMa2Oc"), 0, 1, 1);
    shareOf("three tilts", tray("TMa2Od"), 0, 0, 1);
  }

  private static void pairsAtRest() {
    says("Terms 3",
        "each 1 less, if both ways are alike: pairs of ways in which neither has more by another way alone: how "
        + "many; the first (10 times the one and the other); NONE");
    due("no marble", new TiltTray().rests(0), 12);
    due("no marble, the first", new TiltTray().rests(1), 1);
    TiltTray t = tray("TMs0Mg1Mh1Mv0ObOyWqWdWiFn");
    due("none", t.rests(0), 0);
    due("none, the first", t.rests(1), NONE);
    due("alike", tray("TMa2Mf2OcOh").rests(0), 13);
    due("10 times the one", tray("TMm0Ma3Oo").rests(1), 10);
    due("the last way of the other one", tray("TMa2Of").rests(1), 3);
  }

  /** One that can not go at all, and one that falls by a pair of ways: whose number it has says who has more by it. */
  private static void pairsOfTwoWays() {
    says("Terms 3", "pairs of ways in which neither has more by another way alone");
    TiltTray t = tray("TMm1NhMa0Oy");
    due("the other one has it: 01 02 03 13 20 21 23 31", t.rests(0), 8);
    due("the other one has it, the first", t.rests(1), 1);
    t = tray("TMa0Mm1NhOy");
    due("the one has it: 02 10 12 13 20 30 31 32", t.rests(0), 8);
    due("the one has it, the first", t.rests(1), 2);
    t = tray("TMa1NbMm2On");
    due("the other one has it by the one's right alone: all but the alike", t.rests(0), 12);
    t = tray("TMm1NhMn2Oo");
    due("the same, but the way left is barred, so that by left of the one only right rests", t.rests(0), 10);
  }

  private static void failingTilts() {
    says("Terms 3",
        "each TILT of a told row (n figures, 1 to 4, WAYS and 1) fails by x tenths (0 to 10), by itself (nothing "
        + "rolls)");
    TiltTray t = tray("TMa2Oe");
    due("four, never", t.fails(0, 4, 2222, 0, true), 1);
    due("four, always", t.fails(0, 4, 2222, 10, true), 0);
    due("four, half, above", t.fails(0, 4, 2222, 5, true), 1);
    due("four, half, below", t.fails(0, 4, 2222, 5, false), 16);
    due("four, by one tenth, above", t.fails(0, 4, 2222, 1, true), 6561);
    due("four, by one tenth, below", t.fails(0, 4, 2222, 1, false), 10000);
    due("four, by nine tenths, above", t.fails(0, 4, 2222, 9, true), 1);
    due("four, by nine tenths, below", t.fails(0, 4, 2222, 9, false), 10000);
    due("three are too few", t.fails(0, 3, 222, 0, true), 0);
    t = tilted("TMa2Ob", 1);
    due("in already, above", t.fails(0, 1, 1, 10, true), 1);
    due("in already, below", t.fails(0, 1, 1, 10, false), 1);
  }

  // ---- Terms 3: days

  private static long next(long seed) {
    return BigInteger.valueOf(seed).multiply(new BigInteger("6364136223846793005"))
        .add(new BigInteger("1442695040888963407")).longValue();
  }

  private static void wrapping() {
    says("Terms 3", "becomes x times 6364136223846793005 and 1442695040888963407 (64 bits, wrapping)");
    long[] seeds = {0, 1, -1, Long.MAX_VALUE, Long.MIN_VALUE, 1L << 32, 1L << 62, 1442695040888963407L, -77};
    for (long seed : seeds) {
      TiltTray t = new TiltTray();
      t.seed(seed);
      t.days(1);
      due("one day from " + seed, t.seed(0), next(seed));
    }
    TiltTray t = new TiltTray();
    t.days(1);
    due("one day from the first seed", t.seed(-1), 1442695040888963407L);
    t.days(1);
    due("one day from -1", t.seed(Long.MAX_VALUE), -4921441182957829598L);
    t.days(1);
    due("one day from the most", t.seed(Long.MIN_VALUE), 4301930853896946210L);
    t.days(1);
    due("one day from the least", t.seed(0), -7780676995965812401L);
    t.days(30);
    due("thirty days from 0", t.seed(0), -7345197285147560642L);
  }

  private static int daysBy(TiltTray t, long seed, int m) {
    t.seed(seed);
    return t.days(m);
  }

  private static void upperBits() {
    says("Terms 3",
        "its upper 31 bits by 29, what is left: 0 to 24 that CELL is WEDGED, or not any more, if it can be; 25 to "
        + "28 that less 25 is the way of a TILT");
    due("upper bits 26: right", daysBy(tray("TMa0Ob"), -8765595881363396752L, 1), 1);
    due("upper bits 2147483637, the sign's too: right", daysBy(tray("TMa0Ob"), -1971845139723376784L, 1), 1);
    due("upper bits 25: left", daysBy(tray("TMb0Oa"), 2386353317643364208L, 1), 1);
    due("upper bits 28: front", daysBy(tray("TMa0Of"), 5823993868042184560L, 1), 1);
    due("27: back", daysBy(tray("TMf0Oa"), 52, 1), 1);
    due("24, 26, 27: the last cell is wedged", daysBy(tray("TMu0Oe"), 5993, 3), 0);
    due("23, 26, 27: another one is not in the way", daysBy(tray("TMt0Oe"), 36216, 3), 1);
    due("0, 25, 28: the first cell is wedged", daysBy(tray("TMe0Ou"), 6474, 3), 0);
    due("12, not wedged for long: only for the days", daysBy(tray("TMa0Ob"), 53, 1), 0);
  }

  private static void drawnWedges() {
    says("Terms 3", "0 to 24 that CELL is WEDGED, or not any more, if it can be");
    due("13, 26: wedged", daysBy(tray("TMk0Oo"), 314, 2), 0);
    TiltTray t = tray("TMk0Oo");
    t.wedge(13);
    due("13, 26: not any more", daysBy(t, 314, 2), 1);
    due("and wedged all the same", t.count(8), bits(13));
    t = tray("TMk0Oo");
    t.wedge(0);
    t.wedge(1);
    due("13, 26: the third", daysBy(t, 314, 2), 0);
    t.wedge(2);
    due("13, 26: not the fourth", daysBy(t, 314, 2), 1);
    due("10, 26: not at a marble", daysBy(tray("TMk0Oo"), 938, 2), 1);
    due("14, 26: not at a hole", daysBy(tray("TMk0Oo"), 102, 2), 1);
  }

  private static void daysTogether() {
    says("Terms 3", "how many are IN HOLES, each time, together. (Nothing changes but THE SEED.)");
    due("one, thirty times", tilted("TMa0Ob", 1).days(30), 30);
    due("three, thirty times", tilted("TMa0Mf0Mk0ObOgOl", 1).days(30), 90);
    due("three, once", tilted("TMa0Mf0Mk0ObOgOl", 1).days(1), 3);
    due("no marble", new TiltTray().days(30), 0);
    TiltTray t = busy();
    t.seed(3);
    t.days(30);
    t.seed(77);
    if (!allOf(t).equals(allOf(busy()))) tell("days(30) changes more than the seed");
  }

  private static void daysOneByOne() {
    says("Terms 3", "m times (1 to 30) x (THE SEED, a long; 0 at first)");
    TiltTray once = new TiltTray();
    TiltTray often = new TiltTray();
    once.days(30);
    for (int day = 0; day < 30; day++) often.days(1);
    due("the same seed behind thirty days", often.seed(0), once.seed(0));
    due("the seed at first", new TiltTray().seed(1), 0);
  }

  private static void whatSlotsKeep() {
    says("Terms 3",
        "SLOTS 0 to 1 keep where MARBLES are, which HOLES are FULL, what is WEDGED, how many TILTS were made (THE "
        + "ROW of ACTS is empty when one goes on).");
    TiltTray t = tray("TMa0Mk0Ob");
    t.keep(1);
    t.tilt(1);
    t.wedge(24);
    t.keep(0);
    t.tilt(2);
    t.lift(0, 20);
    due("again(0)", t.again(0), 1);
    places("slot 0", t, 101, 14);
    due("full", t.count(7), bits(1));
    due("wedged", t.count(8), bits(24));
    due("tilts", t.count(9), 1);
    due("acts", t.count(10), 0);
    due("undo", t.undo(), STATE);
    due("again(1)", t.again(1), 0);
    places("slot 1", t, 0, 10);
    due("nothing full, wedged, tilted", t.count(7) + t.count(8) + t.count(9), 0);
    due("acts go on", t.tilt(1), 1);
    due("one to undo", t.undo(), 0);
  }

  // ---- the promises' own refusals: the table

  private static void promise1() {
    says("Promise 1", "An empty tray.");
    TiltTray t = new TiltTray();
    due("marbles", t.count(1), 0);
    due("fault", t.fault(), 0);
    due("safe", t.safe(), 15);
    for (int way = 0; way < 4; way++) due("tilt(" + way + ")", t.tilt(way), 0);
    due("undo", t.undo(), 3);
    due("wedge(0)", t.wedge(0), 1);
    due("wedge(24)", t.wedge(24), 1);
  }

  private static void promise2() {
    says("Promise 2", "A letter (0 to 255) comes behind THE TEXT: how long it is. OUTSIDE; FULL: there are 48.");
    due("write(0)", new TiltTray().write(0), 1);
    due("write(255)", new TiltTray().write(255), 1);
    int[] outside = {-1, 256, 256 + 'T', 65536 + 'T', LEAST, MOST};
    for (int letter : outside) {
      still("write(" + letter + ")", t -> t.write(letter), OUTSIDE);
      still("write(" + letter + "), full", BoundaryTest::withFullText, t -> t.write(letter), OUTSIDE);
    }
    TiltTray t = written("T".repeat(47));
    due("the 48th", t.write(0), 48);
    still("write('W'), full", BoundaryTest::withFullText, x -> x.write('W'), FULL);
    still("write(0), full", BoundaryTest::withFullText, x -> x.write(0), FULL);
    still("write(255), full", BoundaryTest::withFullText, x -> x.write(255), FULL);
  }

  private static void promise3() {
    says("Promise 3", "THE TEXT is empty: how long it was.");
    TiltTray t = withFullText();
    due("full", t.wipe(), 48);
    due("empty", t.wipe(), 0);
    due("letters", t.count(0), 0);
    due("written anew", t.write('T'), 1);
    due("nothing of it is left", t.fault(), NONE);
    t = written("TMa0Wb");
    write(t, "TMa");
    due("no kind is left", t.fault(), 3);
    write(t, "TM");
    due("no cell is left", t.fault(), 2);
    t.wipe();
    due("no T is left", t.fault(), 0);
  }

  private static void promise4() {
    says("Promise 4", "FAULT; NONE.");
    due("an empty text", new TiltTray().fault(), 0);
    due("a full text", withFullText().fault(), 1);
    due("a table", written("T").fault(), NONE);
    still("fault", t -> t.fault(), 2);
  }

  private static void promise5() {
    says("Promise 5", "STATE: a FAULT");
    String[] faulty = {"", "X", "TW", "TMa", "TWaWa", "TWaWbWcWdWeWfWg"};
    for (String text : faulty) {
      still("table of " + text, () -> rewritten(text), t -> t.table(), STATE);
    }
  }

  private static TiltTray rewritten(String text) {
    TiltTray t = busy();
    write(t, text);
    return t;
  }

  private static void tableForgets() {
    says("Promise 5",
        "THE TEXT is THE TABLE (THE ROW of ACTS is empty, what was kept is gone; SEEN, THE SEED stay): 100 times "
        + "WALLS, 10 times HOLES, and MARBLES.");
    TiltTray t = withFourteenActs();
    t.keep(1);
    write(t, MOST_PARTS);
    due("the most", t.table(), 634);
    due("acts", t.count(10), 0);
    due("undo", t.undo(), STATE);
    due("again(0)", t.again(0), STATE);
    due("again(1)", t.again(1), STATE);
    due("seen", t.count(11), 1);
    due("the seed", t.seed(77), 77);
    due("the text", t.count(0), 41);
    write(t, "T");
    due("the least", t.table(), 0);
  }

  private static void promise6() {
    says("Promise 6",
        "Of a CELL 0 nothing told but a MARBLE, 1 a WALL, 2 a HOLE, 3 FELT, 4 a MAGNET (what = 0), the MARBLE "
        + "there (1; NONE), 1 if it is a HOLE that is FULL (2), WEDGED (3). UNKNOWN; OUTSIDE.");
    int[] unknown = {-1, 25, 32, 100, LEAST, MOST};
    for (int cell : unknown) {
      for (int what = -1; what < 5; what++) {
        int asked = what;
        still("cell(" + cell + ", " + what + ")", t -> t.cell(cell, asked), UNKNOWN);
      }
    }
    int[] outside = {-1, 4, LEAST, MOST};
    for (int what : outside) still("cell(24, " + what + ")", t -> t.cell(24, what), OUTSIDE);
    TiltTray t = tray("TWaOyFbNcMd3Mx0");
    int[] want = {1, 3, 4, 0, 0};
    for (int cell = 0; cell < 5; cell++) due("cell(" + cell + ", 0)", t.cell(cell, 0), want[cell]);
    due("cell(24, 0)", t.cell(24, 0), 2);
    due("cell(24, 2), not full", t.cell(24, 2), 0);
    t.tilt(1);
    due("cell(24, 2), full", t.cell(24, 2), 1);
    due("cell(24, 1)", t.cell(24, 1), NONE);
    due("cell(3, 1)", t.cell(3, 1), 0);
    t.wedge(4);
    due("cell(4, 3)", t.cell(4, 3), 1);
    due("cell(5, 3)", t.cell(5, 3), 0);
  }

  private static void whoIsThere() {
    says("Promise 6", "the MARBLE there (1; NONE)");
    String[] told = {"Mb0", "Mg1", "Mm2", "My3"};
    TiltTray grown = new TiltTray();
    for (int marbles = 0; marbles <= 4; marbles++) {
      String text = "T" + String.join("", Arrays.copyOf(told, marbles));
      write(grown, text);
      grown.table();
      TiltTray shrunk = tray("TMa0Mc1Mk2Mx3");
      write(shrunk, text);
      shrunk.table();
      for (int cell = 0; cell < 25; cell++) {
        int marble = text.indexOf("M" + CELLS.charAt(cell));
        int want = marble < 0 ? NONE : (marble - 1) / 3;
        due("cell(" + cell + ", 1) of " + text, grown.cell(cell, 1), want);
        due("cell(" + cell + ", 1) of " + text + ", behind four", shrunk.cell(cell, 1), want);
      }
    }
  }

  private static void promise7() {
    says("Promise 7",
        "Of a MARBLE its KIND (what = 0), CELL (1; 100 and that of the HOLE, if it is IN one), WAYS of a TILT "
        + "behind which it is elsewhere (2: bits), such by which it falls (3: bits). UNKNOWN; OUTSIDE.");
    int[] unknown = {-1, 4, 32, LEAST, MOST};
    for (int marble : unknown) {
      for (int what = -1; what < 5; what++) {
        int asked = what;
        still("marble(" + marble + ", " + what + ")", t -> t.marble(marble, asked), UNKNOWN);
      }
    }
    int[] outside = {-1, 4, LEAST, MOST};
    for (int what : outside) still("marble(3, " + what + ")", t -> t.marble(3, what), OUTSIDE);
    due("no marble at all", new TiltTray().marble(0, 0), UNKNOWN);
    due("the second of one", tray("TMa0").marble(1, 0), UNKNOWN);
    TiltTray t = tray("TMm0OlOnOh");
    due("elsewhere", t.marble(0, 2), 15);
    due("falls", t.marble(0, 3), 7);
    due("falls at the first cell", tray("TMb0Oa").marble(0, 3), 1);
    due("falls at the last cell", tray("TMt0Oy").marble(0, 3), 8);
    due("in: cell", tilted("TMb0Oa", 0).marble(0, 1), 100);
    due("in: elsewhere", tilted("TMb0Oa", 0).marble(0, 2), 0);
    due("in: falls", tilted("TMb0Oa", 0).marble(0, 3), 0);
    due("nowhere else", tray("TMa0WbWf").marble(0, 2), 0);
  }

  // ---- the promises' own refusals: acts

  private static void promise8() {
    says("Promise 8", "TILTED: how many fell. OUTSIDE: way (0 to 3).");
    int[] outside = {-1, 4, LEAST, MOST};
    for (int way : outside) {
      still("tilt(" + way + ")", t -> t.tilt(way), OUTSIDE);
      still("tilt(" + way + "), fourteen acts", BoundaryTest::withFourteenActs, t -> t.tilt(way), OUTSIDE);
    }
    due("tilt(0)", tray("TMb0Oa").tilt(0), 1);
    due("tilt(3)", tray("TMa0Of").tilt(3), 1);
    due("three fell", tray("TMa0Mf0Mk0Mp0ObOgOl").tilt(1), 3);
    due("none fell any more", tilted("TMa0Mf0Mk0Mp0ObOgOl", 1).tilt(1), 0);
    TiltTray t = tray("TMa0");
    due("nobody goes", t.tilt(0), 0);
    due("it was a tilt all the same", t.count(9), 1);
    due("and an act", t.count(10), 1);
  }

  private static void promise9() {
    says("Promise 9",
        "LIFTED: where it was. UNKNOWN: both; STATE: it can not be there, it is a HOLE that is not FULL, or its "
        + "own CELL, that of the HOLE it is IN.");
    int[] noMarble = {-1, 4, LEAST, MOST};
    for (int marble : noMarble) still("lift(" + marble + ", 12)", t -> t.lift(marble, 12), UNKNOWN);
    int[] noCell = {-1, 25, 32, 102, LEAST, MOST};
    for (int cell : noCell) still("lift(0, " + cell + ")", t -> t.lift(0, cell), UNKNOWN);
    still("a wall", t -> t.lift(1, 3), STATE);
    still("a magnet", t -> t.lift(1, 24), STATE);
    still("another one's", t -> t.lift(1, 11), STATE);
    still("wedged", t -> t.lift(1, 13), STATE);
    still("a hole that is not full", t -> t.lift(1, 4), STATE);
    still("its own cell", t -> t.lift(1, 8), STATE);
    still("the cell of the hole it is in", t -> t.lift(0, 2), STATE);
    still("a hole that is not full, out of one that is", t -> t.lift(0, 4), STATE);
    due("a hole that is full", busy().lift(1, 2), 8);
    due("felt", busy().lift(1, 7), 8);
    due("the first cell", busy().lift(1, 0), 8);
    due("out of the hole", busy().lift(0, 12), 102);
    due("the last cell", tray("TMa0").lift(0, 24), 0);
    due("no marble", new TiltTray().lift(0, 0), UNKNOWN);
  }

  private static void promise10() {
    says("Promise 10", "WEDGED: 1 if it is so then, 0. UNKNOWN; STATE: it can not be; FULL: there are 3 others.");
    int[] noCell = {-1, 25, 32, LEAST, MOST};
    for (int cell : noCell) {
      still("wedge(" + cell + ")", t -> t.wedge(cell), UNKNOWN);
      still("wedge(" + cell + "), three others", BoundaryTest::withThreeWedges, t -> t.wedge(cell), UNKNOWN);
    }
    int[] state = {3, 4, 2, 7, 24, 8, 11, 20};
    for (int cell : state) {
      still("wedge(" + cell + ")", t -> t.wedge(cell), STATE);
      still("wedge(" + cell + "), three others", BoundaryTest::withThreeWedges, t -> t.wedge(cell), STATE);
    }
    still("the fourth", BoundaryTest::withThreeWedges, t -> t.wedge(0), FULL);
    due("one of the three", withThreeWedges().wedge(15), 0);
    due("the third", busy().wedge(15), 1);
    due("one of two", busy().wedge(14), 0);
    due("the first cell", new TiltTray().wedge(0), 1);
    due("the last cell", new TiltTray().wedge(24), 1);
  }

  private static void promise11() {
    says("Promise 11", "The last ACT is undone: how many are left. STATE: there is none.");
    still("at first", TiltTray::new, t -> t.undo(), STATE);
    still("behind table", () -> tray("TMa0Ob"), t -> t.undo(), STATE);
    still("behind again", BoundaryTest::goneOn, t -> t.undo(), STATE);
    still("behind all of fourteen", BoundaryTest::allUndone, t -> t.undo(), STATE);
    due("of fourteen", withFourteenActs().undo(), 13);
    due("of four", busy().undo(), 3);
    TiltTray t = tray("TMa0");
    t.tilt(1);
    due("of one", t.undo(), 0);
  }

  private static TiltTray goneOn() {
    TiltTray t = withFourteenActs();
    t.again(0);
    return t;
  }

  private static TiltTray allUndone() {
    TiltTray t = withFourteenActs();
    for (int act = 0; act < 14; act++) t.undo();
    return t;
  }

  // ---- the promises' own refusals: tilts

  private static void promise12() {
    says("Promise 12", "RESTS AT. UNKNOWN; OUTSIDE: way.");
    int[] noMarble = {-1, 4, LEAST, MOST};
    for (int marble : noMarble) still("rolls(" + marble + ", 0)", t -> t.rolls(marble, 0), UNKNOWN);
    int[] noWay = {-1, 4, LEAST, MOST};
    for (int way : noWay) {
      still("rolls(3, " + way + ")", t -> t.rolls(3, way), OUTSIDE);
      still("rolls(0, " + way + "), in a hole", t -> t.rolls(0, way), OUTSIDE);
    }
    for (int way = 0; way < 4; way++) {
      int asked = way;
      still("rolls(0, " + way + "), in a hole", t -> t.rolls(0, asked), 102);
    }
  }

  private static void promise13() {
    says("Promise 13", "SAFE, as bits.");
    still("all ways", t -> t.safe(), 15);
    still("at first", TiltTray::new, t -> t.safe(), 15);
    still("no way", () -> tray("TMm0OlOnOhMs3"), t -> t.safe(), 0);
    due("all but left", tray("TMb0Oa").safe(), 14);
    due("all but front", tray("TMt0Oy").safe(), 7);
  }

  private static void promise14() {
    says("Promise 14", "FEWEST: how many (row = false), the row (row = true); NONE. UNKNOWN.");
    int[] noMarble = {-1, 4, LEAST, MOST};
    for (int marble : noMarble) {
      still("fewest(" + marble + ", false)", t -> t.fewest(marble, false), UNKNOWN);
      still("fewest(" + marble + ", true)", t -> t.fewest(marble, true), UNKNOWN);
    }
    still("in a hole", t -> t.fewest(0, false), 0);
    still("in a hole, the row", t -> t.fewest(0, true), 0);
    still("five", () -> tray("TMa2Oj"), t -> t.fewest(0, false), 5);
    still("six", () -> tray("TMa2Oo"), t -> t.fewest(0, true), NONE);
    due("no marble", new TiltTray().fewest(0, true), UNKNOWN);
  }

  private static void promise15() {
    says("Promise 15", "REACH, as bits. UNKNOWN.");
    int[] noMarble = {-1, 4, LEAST, MOST};
    for (int marble : noMarble) still("reach(" + marble + ")", t -> t.reach(marble), UNKNOWN);
    still("in a hole", t -> t.reach(0), 0);
    due("the first cell alone", tray("TMa0WbWf").reach(0), bits(0));
    due("the last cell alone", tray("TMy0WtWx").reach(0), bits(24));
  }

  private static void promise16() {
    says("Promise 16", "BEST: how many (row = false), the row (row = true). OUTSIDE: n.");
    int[] outside = {-1, 0, 5, LEAST, MOST};
    for (int n : outside) {
      still("best(" + n + ", false)", t -> t.best(n, false), OUTSIDE);
      still("best(" + n + ", true)", t -> t.best(n, true), OUTSIDE);
    }
    still("best(1, true)", () -> tray("TMa2Of"), t -> t.best(1, true), 4);
    still("best(4, true)", () -> tray("TMa2Oe"), t -> t.best(4, true), 2222);
    still("best(4, false)", () -> tray("TMa2Oe"), t -> t.best(4, false), 1);
  }

  private static void promise17() {
    says("Promise 17", "SAVES; NONE. UNKNOWN; OUTSIDE: way; STATE: it is IN a HOLE.");
    int[] noMarble = {-1, 4, LEAST, MOST};
    for (int marble : noMarble) still("saves(" + marble + ", 0)", t -> t.saves(marble, 0), UNKNOWN);
    int[] noWay = {-1, 4, LEAST, MOST};
    for (int way : noWay) {
      still("saves(1, " + way + ")", t -> t.saves(1, way), OUTSIDE);
      still("saves(0, " + way + "), in a hole", t -> t.saves(0, way), OUTSIDE);
    }
    for (int way = 0; way < 4; way++) {
      int asked = way;
      still("saves(0, " + way + "), in a hole", t -> t.saves(0, asked), STATE);
    }
    still("beside the hole", () -> tray("TMa0Ob"), t -> t.saves(0, 1), NONE);
    still("a wedge", () -> tray("TMa0Oc"), t -> t.saves(0, 1), 1);
    due("way 0", tray("TMc0Oa").saves(0, 0), 1);
    due("way 3", tray("TMa0Ok").saves(0, 3), 5);
  }

  private static void promise18() {
    says("Promise 18", "JUDGED; NONE. OUTSIDE: n, row (0 or more, 3 n figures at most).");
    int[] outside = {-1, 0, 5, LEAST, MOST};
    for (int n : outside) still("judge(" + n + ", 0)", t -> t.judge(n, 0), OUTSIDE);
    long first = 1;
    for (int n = 1; n <= 4; n++) {
      first *= 1000;
      int doings = n;
      long[] rows = {-1, first, Long.MIN_VALUE, Long.MAX_VALUE};
      for (long row : rows) still("judge(" + n + ", " + row + ")", t -> t.judge(doings, row), OUTSIDE);
      long last = first - 1;
      still("judge(" + n + ", " + last + ")", t -> t.judge(doings, last), 0);
      still("judge(" + n + ", 0)", t -> t.judge(doings, 0), NONE);
    }
    still("no wrap-around to 32 bits", t -> t.judge(1, 1L << 32), OUTSIDE);
    still("nor in four doings", t -> t.judge(4, 1L << 32), 0);
  }

  // ---- the promises' own refusals: seen

  private static void promise19() {
    says("Promise 19", "SEEN: how many there are. UNKNOWN: cell; OUTSIDE: way, came (0 to 25); FULL: 6.");
    int[] noCell = {-1, 25, 32, LEAST, MOST};
    for (int cell : noCell) {
      still("see(" + cell + ", 0, 0)", t -> t.see(cell, 0, 0), UNKNOWN);
      still("see(" + cell + ", 0, 0), six", BoundaryTest::withSixSeen, t -> t.see(cell, 0, 0), UNKNOWN);
    }
    int[] noWay = {-1, 4, LEAST, MOST};
    for (int way : noWay) {
      still("see(0, " + way + ", 0)", t -> t.see(0, way, 0), OUTSIDE);
      still("see(0, " + way + ", 0), six", BoundaryTest::withSixSeen, t -> t.see(0, way, 0), OUTSIDE);
    }
    int[] noCame = {-1, 26, LEAST, MOST};
    for (int came : noCame) {
      still("see(0, 0, " + came + ")", t -> t.see(0, 0, came), OUTSIDE);
      still("see(0, 0, " + came + "), six", BoundaryTest::withSixSeen, t -> t.see(0, 0, came), OUTSIDE);
    }
    still("the seventh", BoundaryTest::withSixSeen, t -> t.see(24, 3, 25), FULL);
    TiltTray t = busy();
    due("the least", t.see(0, 0, 0), 2);
    due("the most", t.see(24, 3, 25), 3);
    due("the same again", t.see(24, 3, 25), 4);
    due("where a wall is", t.see(3, 0, 3), 5);
    due("the sixth", t.see(2, 0, 25), 6);
  }

  private static void promise20() {
    says("Promise 20", "Nothing is SEEN: how much there was.");
    TiltTray t = withSixSeen();
    due("six", t.unsee(), 6);
    due("none", t.unsee(), 0);
    due("seen", t.count(11), 0);
    due("anew", t.see(24, 1, 24), 1);
    write(t, "T");
    t.table();
    due("nothing of what was seen is left but the new one", t.hidden(), ALL - bits(24));
  }

  private static void promise21() {
    says("Promise 21", "HIDDEN, as bits.");
    still("all", TiltTray::new, t -> t.hidden(), ALL);
    still("none", t -> t.hidden(), 0);
    due("the first cell alone", hiddenBy("T", 4, 0, 1), bits(0));
    due("the last cell alone", hiddenBy("T", 20, 1, 23), bits(24));
  }

  // ---- the promises' own refusals: shares, rests, chances

  private static void promise22() {
    says("Promise 22", "SHARE. UNKNOWN.");
    int[] noMarble = {-1, 4, LEAST, MOST};
    for (int marble : noMarble) {
      still("share(" + marble + ", true)", t -> t.share(marble, true), UNKNOWN);
      still("share(" + marble + ", false)", t -> t.share(marble, false), UNKNOWN);
    }
    due("no marble", new TiltTray().share(0, true), UNKNOWN);
    due("the second of one", tray("TMa0Ob").share(1, false), UNKNOWN);
    still("in a hole", t -> t.share(0, true), 1);
    still("in a hole, below", t -> t.share(0, false), 1);
  }

  private static void promise23() {
    says("Promise 23", "RESTS: how many (what = 0), the first (1); NONE. OUTSIDE: what.");
    int[] outside = {-1, 2, LEAST, MOST};
    for (int what : outside) still("rests(" + what + ")", t -> t.rests(what), OUTSIDE);
    Maker unrest = () -> tray("TMs0Mg1Mh1Mv0ObOyWqWdWiFn");
    still("rests(0), no pair", unrest, t -> t.rests(0), 0);
    still("rests(1), no pair", unrest, t -> t.rests(1), NONE);
  }

  private static void promise24() {
    says("Promise 24", "FAILS. UNKNOWN; OUTSIDE: n, row (figures 1 to 4), x.");
    int[] noMarble = {-1, 4, LEAST, MOST};
    for (int marble : noMarble) still("marble " + marble, t -> t.fails(marble, 1, 1, 1, true), UNKNOWN);
    int[] noN = {-1, 0, 5, LEAST, MOST};
    for (int n : noN) still("n " + n, t -> t.fails(0, n, 11111, 1, true), OUTSIDE);
    int[] noX = {-1, 11, LEAST, MOST};
    for (int x : noX) still("x " + x, t -> t.fails(0, 1, 1, x, true), OUTSIDE);
    int[][] noRow = {{-1, 0, 5, 9, 10, 11, LEAST, MOST}, {10, 15, 51, 1, 4, 45, 50, 111, -11},
        {110, 101, 115, 151, 511, 11, 445, 1111, -111}, {1110, 1101, 1011, 111, 4445, 4454, 4544, 5444, 11111, -1111}};
    for (int n = 1; n <= 4; n++) {
      for (int row : noRow[n - 1]) {
        int figures = n;
        still("n " + n + ", row " + row, t -> t.fails(0, figures, row, 1, true), OUTSIDE);
      }
    }
  }

  private static void rowsOfFails() {
    says("Promise 24", "OUTSIDE: n, row (figures 1 to 4), x");
    int[] rows = {1, 4, 11, 14, 41, 44, 111, 444, 1111, 1444, 4111, 4444};
    int[] figures = {1, 1, 2, 2, 2, 2, 3, 3, 4, 4, 4, 4};
    for (int i = 0; i < rows.length; i++) {
      int n = figures[i];
      int row = rows[i];
      still("row " + row + ", x 0", t -> t.fails(0, n, row, 0, true), 1);
      still("row " + row + ", x 10", t -> t.fails(0, n, row, 10, false), 1);
    }
  }

  private static void promise25() {
    says("Promise 25", "THE SEED is v: what it was.");
    TiltTray t = new TiltTray();
    due("at first", t.seed(Long.MAX_VALUE), 0);
    due("the most", t.seed(Long.MIN_VALUE), Long.MAX_VALUE);
    due("the least", t.seed(-1), Long.MIN_VALUE);
    due("-1", t.seed(1L << 32), -1);
    due("more than 32 bits", t.seed(0), 1L << 32);
  }

  private static void promise26() {
    says("Promise 26", "DAYS. OUTSIDE: m.");
    int[] outside = {-1, 0, 31, LEAST, MOST};
    for (int m : outside) still("days(" + m + ")", t -> t.days(m), OUTSIDE);
    due("days(1)", tilted("TMa0Ob", 1).days(1), 1);
    due("days(30)", tilted("TMa0Ob", 1).days(30), 30);
  }

  // ---- the promises' own refusals: slots

  private static void promise27() {
    says("Promise 27", "They are kept: how many TILTS were made. UNKNOWN.");
    int[] noSlot = {-1, 2, 32, LEAST, MOST};
    for (int slot : noSlot) still("keep(" + slot + ")", t -> t.keep(slot), UNKNOWN);
    due("keep(0), no tilt", new TiltTray().keep(0), 0);
    due("keep(1), no tilt", new TiltTray().keep(1), 0);
    TiltTray t = busy();
    due("kept over", t.keep(0), 1);
    t.lift(1, 0);
    t.again(0);
    places("as it was kept last", t, 102, 8, 11, 20);
  }

  private static void promise28() {
    says("Promise 28", "They are as they were kept: how many TILTS were made. UNKNOWN; STATE: none were kept.");
    int[] noSlot = {-1, 2, 32, LEAST, MOST};
    for (int slot : noSlot) still("again(" + slot + ")", t -> t.again(slot), UNKNOWN);
    still("again(1), none kept", t -> t.again(1), STATE);
    still("again(0), at first", TiltTray::new, t -> t.again(0), STATE);
    still("again(1), at first", TiltTray::new, t -> t.again(1), STATE);
    TiltTray t = busy();
    due("again(0)", t.again(0), 1);
    due("again(0), once more", t.again(0), 1);
    places("as they were kept", t, 102, 7, 11, 20);
    write(t, "TMa0");
    t.table();
    due("behind table", t.again(0), STATE);
    t.keep(1);
    due("the other one alone", t.again(0), STATE);
    due("the kept one", t.again(1), 0);
  }

  private static void promise29() {
    says("Promise 29",
        "0 letters of THE TEXT, 1 MARBLES, 2 WALLS (bits), 3 HOLES (bits), 4 FELT (bits), 5 MAGNETS (bits), 6 "
        + "CELLS of MARBLES (bits), 7 HOLES that are FULL (bits), 8 WEDGED (bits), 9 TILTS, 10 ACTS in the row, 11 "
        + "SEEN. OUTSIDE.");
    int[] outside = {-1, 12, LEAST, MOST};
    for (int what : outside) still("count(" + what + ")", t -> t.count(what), OUTSIDE);
    int[] busy = {2, 4, bits(3), bits(2, 4), bits(7), bits(24), bits(8, 11, 20), bits(2), bits(13, 14), 1, 4, 1};
    for (int what = 0; what < 12; what++) due("count(" + what + ")", busy().count(what), busy[what]);
    due("most letters", withFullText().count(0), 48);
    due("most wedges", withThreeWedges().count(8), bits(13, 14, 15));
    due("most acts", withFourteenActs().count(10), 14);
    due("most seen", withSixSeen().count(11), 6);
    int[] most = {41, 4, 63, bits(6, 7, 8), bits(9, 10, 11), bits(12, 13), bits(14, 15, 16, 17)};
    TiltTray t = tray(MOST_PARTS);
    for (int what = 0; what < 7; what++) due("most parts, count(" + what + ")", t.count(what), most[what]);
  }

  // ---- all of them

  private static void terms() {
    lastCall();
    laterCalls();
    numbersOfRefusals();
    firstNamed();
    refusedOneAfterAnother();
    none();
    fractions();
    refusalsOfFractions();
  }

  private static void cellsAndText() {
    lettersOfCells();
    rims();
    beside();
    lengthOfText();
    noPart();
    toldTwice();
    mostOfParts();
    numbers();
    kinds();
    nothingRollsOnMagnets();
    firstFault();
    longFault();
    notAtItsEnd();
    atFirst();
    madeAnew();
    whereOneCanBe();
  }

  private static void tiltsAndActs() {
    rounds();
    byNumber();
    waxOnce();
    holesTakeOne();
    felt();
    iron();
    lifted();
    wedgedAtMost();
    fullHoleIsNotWedged();
    fourteenActs();
    undoneOfEachKind();
  }

  private static void whatIsAsked() {
    askingChangesNothing();
    restsAt();
    safeWays();
    fewestUpToFive();
    firstFewest();
    reachUpToFour();
    bestOfTilts();
    savesAtBothEnds();
    judgedFigures();
    judgedPlaces();
  }

  private static void seenSharesChances() {
    sixSeen();
    cameOrFell();
    hiddenCells();
    putThere();
    shares();
    pairsAtRest();
    pairsOfTwoWays();
    failingTilts();
    wrapping();
    upperBits();
    drawnWedges();
    daysTogether();
    daysOneByOne();
    whatSlotsKeep();
  }

  private static void promises() {
    promise1();
    promise2();
    promise3();
    promise4();
    promise5();
    tableForgets();
    promise6();
    whoIsThere();
    promise7();
    promise8();
    promise9();
    promise10();
    promise11();
    promise12();
    promise13();
    promise14();
    promise15();
    promise16();
    promise17();
    promise18();
    promise19();
    promise20();
    promise21();
    promise22();
    promise23();
    promise24();
    rowsOfFails();
    promise25();
    promise26();
    promise27();
    promise28();
    promise29();
  }

  public static void main(String[] args) throws IOException {
    document = Files.readString(Path.of("../shared/DOC.md")).replaceAll("\\s+", " ");
    terms();
    cellsAndText();
    tiltsAndActs();
    whatIsAsked();
    seenSharesChances();
    promises();
    System.out.println(wrong == 0 ? "all boundaries hold" : wrong + " answers are not as due");
    if (wrong != 0) System.exit(1);
  }
}
