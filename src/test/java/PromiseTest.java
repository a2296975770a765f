/**
 * For each promise of the document: ordinary inputs, the edges that it names, wrong inputs. Worked out by hand, but for
 * two trays that a search found (a share below 0, no pair at rest), whose answers ModelTest's model gave too.
 */
public final class PromiseTest {
  private static final int UNKNOWN = -1, OUTSIDE = -2, STATE = -3, FULL = -4, NONE = -9;
  private static final int ALL = (1 << 25) - 1;
  private static int wrong = 0;

  private static void due(String call, long got, long want) {
    if (got != want) {
      wrong++;
      System.out.println(call + " answered " + got + ", due is " + want);
    }
  }

  private static void write(TiltTray t, String text) {
    t.wipe();
    for (int i = 0; i < text.length(); i++) t.write(text.charAt(i));
  }

  private static TiltTray tray(String text) {
    TiltTray t = new TiltTray();
    write(t, text);
    if (t.table() < 0) due("table() of " + text, -3, 0);
    return t;
  }

  private static int bits(int... cells) {
    int bits = 0;
    for (int c : cells) bits |= 1 << c;
    return bits;
  }

  private static void places(String name, TiltTray t, int... cells) {
    for (int m = 0; m < cells.length; m++) due(name + ": place of " + m, t.marble(m, 1), cells[m]);
  }

  private static void fraction(String name, int above, int below, int wantAbove, int wantBelow) {
    due(name + ", above", above, wantAbove);
    due(name + ", below", below, wantBelow);
  }

  private static void promise1() {
    TiltTray t = new TiltTray();
    for (int what = 0; what < 12; what++) due("1: count(" + what + ")", t.count(what), 0);
    for (int cell = 0; cell < 25; cell++) {
      due("1: cell(.., 0)", t.cell(cell, 0), 0);
      due("1: cell(.., 1)", t.cell(cell, 1), NONE);
      due("1: cell(.., 2)", t.cell(cell, 2), 0);
      due("1: cell(.., 3)", t.cell(cell, 3), 0);
    }
    due("1: marble", t.marble(0, 0), UNKNOWN);
    due("1: fault", t.fault(), 0);
    due("1: undo", t.undo(), STATE);
    due("1: again", t.again(0), STATE);
    due("1: seed", t.seed(0), 0);
    due("1: constants", TiltTray.UNKNOWN + 10 * TiltTray.OUTSIDE + 100 * TiltTray.STATE + 1000 * TiltTray.FULL
        + 10000 * TiltTray.NONE, -1 - 20 - 300 - 4000 - 90000);
  }

  private static void promise2() {
    TiltTray t = new TiltTray();
    due("2: -1", t.write(-1), OUTSIDE);
    due("2: 256", t.write(256), OUTSIDE);
    due("2: least", t.write(Integer.MIN_VALUE), OUTSIDE);
    due("2: 0", t.write(0), 1);
    due("2: 255", t.write(255), 2);
    for (int i = 3; i <= 48; i++) due("2: letter", t.write('T'), i);
    due("2: 49th", t.write('T'), FULL);
    due("2: 49th, wrong too", t.write(256), OUTSIDE);
    due("2: 48 stay", t.count(0), 48);
  }

  private static void promise3() {
    TiltTray t = tray("TMa0");
    due("3: wipe", t.wipe(), 4);
    due("3: again", t.wipe(), 0);
    due("3: empty", t.count(0), 0);
    due("3: the table stays", t.marble(0, 1), 0);
    due("3: written anew", t.write('T'), 1);
    due("3: is a table", t.fault(), NONE);
  }

  private static void faultOf(String text, int want) {
    TiltTray t = new TiltTray();
    write(t, text);
    due("4: fault of '" + text + "'", t.fault(), want);
    due("5: table of '" + text + "' refused", t.table() == STATE ? 1 : 0, want == NONE ? 0 : 1);
    due("4: the text stays", t.count(0), text.length());
  }

  private static void promise4() {
    String[] good = {"T", "TWa", "TOy", "TFm", "TNb", "TMa0", "TMy3", "TWaWbWcWdWeWfOgOhOiFjFkFlNmNnMo0Mp1Mq2Mr3"};
    for (String text : good) faultOf(text, NONE);
    String[] first = {"", "t", "X", "\0T", "WaT"};
    for (String text : first) faultOf(text, 0);
    String[] second = {"TX", "TT", "Ta", "T0", "Tw", "TXWz", "T\0"};
    for (String text : second) faultOf(text, 1);
    String[] third = {"TW", "TO", "TF", "TN", "TM", "TWz", "TW`", "TWA", "TM0", "TMz0", "TWW"};
    for (String text : third) faultOf(text, 2);
    String[] fourth = {"TMa", "TMa4", "TMa/", "TMaa", "TMaW", "TWaw"};
    for (String text : fourth) faultOf(text, 3);
    faultOf("TWaWa", 4);
    faultOf("TWaOa", 4);
    faultOf("TWaO", 4);
    faultOf("TWaMa0", 4);
    faultOf("TMa0Ma1", 5);
    faultOf("TMa0Na", 5);
    faultOf("TWaWbWcWdWeWfWg", 13);
    faultOf("TOaObOcO", 7);
    faultOf("TFaFbFcFa", 7);
    faultOf("TNaNbN", 5);
    faultOf("TMa0Mb0Mc0Md0Me0", 13);
    faultOf("TWaWbWcWdWeWfOgOhOiFjFkFlNmNnMo0Mp1Mq2Mr3Ms0", 41);
    faultOf("TWaWbWcWdWeWfOgOhOiFjFkFlNmNnMo0Mp1Mq2Mr3T000000", 41);
    TiltTray t = tray("TWaOb");
    write(t, "TW");
    due("4: what was wiped is not read", t.fault(), 2);
    due("4: a fault leaves the table", t.count(2), 1);
    write(t, "TMa0");
    write(t, "TMb");
    due("4: nor a kind", t.fault(), 3);
  }

  private static void promise5() {
    TiltTray t = new TiltTray();
    write(t, "TWaWbOcFdNeMy0Mx1");
    due("5: table", t.table(), 212);
    write(t, "TMa0Oe");
    due("5: table anew", t.table(), 11);
    due("5: walls are gone", t.count(2), 0);
    t.tilt(1);
    t.wedge(12);
    t.keep(0);
    t.see(0, 0, 0);
    t.seed(77);
    write(t, "TMa");
    due("5: refused", t.table(), STATE);
    due("5: nothing changed", t.count(7), bits(4));
    due("5: kept still", t.keep(1), 1);
    due("5: acts still", t.count(10), 2);
    write(t, "TMa0Oe");
    due("5: the same anew", t.table(), 11);
    due("5: no hole is full", t.count(7), 0);
    due("5: nothing is wedged", t.count(8), 0);
    due("5: no tilt", t.count(9), 0);
    due("5: no act", t.count(10), 0);
    due("5: none to undo", t.undo(), STATE);
    due("5: kept is gone", t.again(0), STATE);
    due("5: kept is gone, 1", t.again(1), STATE);
    due("5: seen stays", t.count(11), 1);
    due("5: seed stays", t.seed(0), 77);
    due("5: the text stays", t.count(0), 6);
    places("5", t, 0);
    due("5: read again", t.fault(), NONE);
    due("5: reading leaves the table", t.cell(4, 0), 2);
    write(t, "TNc");
    t.table();
    write(t, "TMb1");
    t.table();
    due("5: magnets are gone", t.rolls(0, 1), 4);
    write(t, "T");
    due("5: empty", t.table(), 0);
    due("5: no marble", t.marble(0, 0), UNKNOWN);
    due("5: no cell of one", t.count(6), 0);
  }

  private static void promise6() {
    TiltTray t = tray("TWaObFcNdMk0Mm1");
    for (int cell = 0; cell < 4; cell++) due("6: told", t.cell(cell, 0), cell + 1);
    due("6: a marble's", t.cell(10, 0), 0);
    due("6: nothing", t.cell(24, 0), 0);
    due("6: marble 0", t.cell(10, 1), 0);
    due("6: marble 1", t.cell(12, 1), 1);
    due("6: none there", t.cell(11, 1), NONE);
    t.lift(0, 6);
    due("6: lifted", t.cell(6, 1), 0);
    due("6: left", t.cell(10, 1), NONE);
    due("6: not full", t.cell(1, 2), 0);
    t.tilt(2);
    due("6: full", t.cell(1, 2), 1);
    due("6: one in a hole is not on the tray", t.cell(1, 1), NONE);
    due("6: a hole still", t.cell(1, 0), 2);
    t.wedge(24);
    due("6: wedged", t.cell(24, 3), 1);
    due("6: not wedged", t.cell(23, 3), 0);
    due("6: wedged, nothing told", t.cell(24, 0), 0);
    due("6: cell 25", t.cell(25, 0), UNKNOWN);
    due("6: cell -1, wrong what", t.cell(-1, 9), UNKNOWN);
    due("6: what 4", t.cell(0, 4), OUTSIDE);
    due("6: what -1", t.cell(0, -1), OUTSIDE);
  }

  private static void promise7() {
    TiltTray t = tray("TMm0OnMa3");
    due("7: kind", t.marble(0, 0), 0);
    due("7: kind 3", t.marble(1, 0), 3);
    due("7: cell", t.marble(0, 1), 12);
    due("7: ways", t.marble(0, 2), 15);
    due("7: ways of a contrary one", t.marble(1, 2), 1 + 4);
    due("7: falls", t.marble(0, 3), 2);
    due("7: falls to the left", tray("TMm0Ok").marble(0, 3), 1);
    due("7: falls at cell 0", tray("TMk0Oa").marble(0, 3), 4);
    t.tilt(1);
    due("7: in", t.marble(0, 1), 113);
    due("7: in: ways", t.marble(0, 2), 0);
    due("7: in: falls", t.marble(0, 3), 0);
    due("7: marble 2", t.marble(2, 0), UNKNOWN);
    due("7: marble -1, wrong what", t.marble(-1, 4), UNKNOWN);
    due("7: what 4", t.marble(0, 4), OUTSIDE);
    due("7: what -1", t.marble(0, -1), OUTSIDE);
  }

  private static void tiltsOfKinds() {
    TiltTray t = tray("TMa0Wd");
    due("8: nobody falls", t.tilt(1), 0);
    places("8: wall", t, 2);
    t.tilt(3);
    places("8: front", t, 22);
    t.tilt(1);
    t.tilt(2);
    t.tilt(0);
    places("8: right, back, left", t, 4);
    t = tray("TMa0Mf1Mk2Mu3FcFhFw");
    t.tilt(1);
    places("8: felt", t, 4, 7, 11, 20);
    t.tilt(1);
    places("8: off the felt", t, 4, 9, 12, 20);
    t.tilt(0);
    places("8: back over it", t, 0, 7, 11, 22);
    t = tray("TMa1Mf0Nh");
    t.tilt(1);
    places("8: magnet", t, 2, 6);
    for (int way = 0; way < 4; way++) t.tilt(way);
    due("8: iron does not go", t.marble(0, 1), 2);
    t.lift(0, 4);
    t.tilt(0);
    due("8: iron comes to it", t.marble(0, 1), 2);
    t.lift(0, 6);
    due("8: iron beside it stays, whichever way", t.marble(0, 2), 0);
    t = tray("TMa1NhOc");
    due("8: iron falls beside a magnet", t.tilt(1), 1);
    places("8: in", t, 102);
    t = tray("TMb2Oc");
    due("8: wax falls", t.tilt(1), 1);
    places("8: wax in", t, 102);
    t = tray("TMy3Ow");
    due("8: contrary", t.tilt(1), 1);
    places("8: contrary in", t, 122);
  }

  private static void tiltsOfMany() {
    TiltTray t = tray("TMa0Mb0Od");
    due("8: one falls", t.tilt(1), 1);
    places("8: a full hole is as any cell", t, 4, 103);
    t = tray("TMa0Mc3");
    t.tilt(1);
    places("8: by number", t, 1, 2);
    t = tray("TMc3Ma0");
    t.tilt(1);
    places("8: by number, the other way round", t, 1, 0);
    t = tray("TMa0Mb2");
    t.tilt(1);
    places("8: behind a wax one", t, 1, 2);
    t = tray("TMa2Mb0");
    t.tilt(1);
    places("8: a wax one waits and goes once", t, 1, 4);
    t = tray("TMc1Md0Fb");
    t.lift(0, 1);
    t.lift(1, 2);
    t.tilt(1);
    places("8: one on felt waits and goes", t, 3, 4);
    t = tray("TMa2Mb2Mc2");
    t.tilt(1);
    places("8: each once", t, 1, 2, 3);
    t = tray("TMa0Mf0Mk0Mp0OeOjOo");
    due("8: three fall", t.tilt(1), 3);
    places("8: three in", t, 104, 109, 114, 19);
    due("8: and stay", t.tilt(0), 0);
    places("8: three still in", t, 104, 109, 114, 15);
    t = tray("TMa0");
    t.wedge(2);
    t.tilt(1);
    places("8: wedge", t, 1);
    due("8: tilts", t.count(9), 1);
    due("8: way 4", t.tilt(4), OUTSIDE);
    due("8: way -1", t.tilt(-1), OUTSIDE);
    due("8: refused, not an act", t.count(10), 2);
    due("8: refused, no tilt", t.count(9), 1);
    due("8: nothing moves", t.tilt(1), 0);
    due("8: it is an act all the same", t.count(10), 3);
    due("8: and a tilt", t.count(9), 2);
  }

  private static void promise8() {
    tiltsOfKinds();
    tiltsOfMany();
  }

  private static void promise9() {
    TiltTray t = tray("TMa0Mb0OdWfNgFh");
    due("9: lift", t.lift(0, 12), 0);
    places("9", t, 12, 1);
    due("9: own cell", t.lift(0, 12), STATE);
    due("9: another's", t.lift(0, 1), STATE);
    due("9: open hole", t.lift(0, 3), STATE);
    due("9: wall", t.lift(0, 5), STATE);
    due("9: magnet", t.lift(0, 6), STATE);
    due("9: felt", t.lift(0, 7), 12);
    t.wedge(24);
    due("9: wedged", t.lift(0, 24), STATE);
    due("9: marble 2", t.lift(2, 13), UNKNOWN);
    due("9: cell 25", t.lift(0, 25), UNKNOWN);
    due("9: both", t.lift(-1, -1), UNKNOWN);
    due("9: acts", t.count(10), 3);
    due("9: no tilts", t.count(9), 0);
    due("9: falls", t.tilt(1), 1);
    places("9", t, 9, 103);
    due("9: its own hole", t.lift(1, 3), STATE);
    due("9: upon a full hole", t.lift(0, 3), 9);
    due("9: its own hole, one upon it", t.lift(1, 3), STATE);
    due("9: out of the hole", t.lift(1, 0), 103);
    due("9: not full any more", t.cell(3, 2), 0);
    due("9: one is still at it", t.cell(3, 1), 0);
    due("9: nobody falls by standing there", t.tilt(0), 0);
    places("9", t, 1, 0);
    due("9: falls when it comes again", t.tilt(1), 1);
    places("9", t, 103, 4);
    t = tray("TMc0Oa");
    t.tilt(0);
    due("9: out of the hole at cell 0", t.lift(0, 24), 100);
    due("9: that is not full any more", t.count(7), 0);
    due("9: its cell alone", t.count(6), bits(24));
  }

  private static void promise10() {
    TiltTray t = tray("TMa0WbOcFdNe");
    due("10: marble there", t.wedge(0), STATE);
    for (int cell = 1; cell < 5; cell++) due("10: told", t.wedge(cell), STATE);
    t.tilt(3);
    due("10: where a marble was", t.wedge(0), 1);
    due("10: second", t.wedge(12), 1);
    due("10: third", t.wedge(24), 1);
    due("10: fourth", t.wedge(13), FULL);
    due("10: fourth, told", t.wedge(1), STATE);
    due("10: fourth, unknown", t.wedge(25), UNKNOWN);
    due("10: -1", t.wedge(-1), UNKNOWN);
    due("10: bits", t.count(8), bits(0, 12, 24));
    due("10: not any more", t.wedge(12), 0);
    due("10: now it can", t.wedge(13), 1);
    due("10: acts", t.count(10), 6);
    due("10: tilts", t.count(9), 1);
  }

  private static void promise11() {
    TiltTray t = tray("TMa0Oe");
    t.wedge(12);
    t.tilt(1);
    t.lift(0, 20);
    due("11: lift undone", t.undo(), 2);
    due("11: in again", t.marble(0, 1), 104);
    due("11: full again", t.count(7), bits(4));
    due("11: tilt undone", t.undo(), 1);
    due("11: out again", t.marble(0, 1), 0);
    due("11: not full", t.count(7), 0);
    due("11: no tilt", t.count(9), 0);
    due("11: its cell", t.count(6), bits(0));
    due("11: wedge undone", t.undo(), 0);
    due("11: not wedged", t.count(8), 0);
    due("11: none", t.undo(), STATE);
    for (int i = 0; i < 20; i++) t.lift(0, 5 + i);
    due("11: 14 at most", t.count(10), 14);
    for (int left = 13; left >= 0; left--) {
      due("11: undone", t.undo(), left);
      due("11: where it was", t.marble(0, 1), 10 + left);
    }
    due("11: the first ones are forgotten", t.undo(), STATE);
    due("11: where it stays", t.marble(0, 1), 10);
    for (int i = 0; i < 3; i++) t.tilt(i);
    due("11: tilts", t.count(9), 3);
    due("11: acts go on", t.undo(), 2);
    due("11: tilts less", t.count(9), 2);
  }

  private static void promise12() {
    TiltTray t = tray("TMa0Mm2On");
    due("12: right", t.rolls(0, 1), 4);
    due("12: front", t.rolls(0, 3), 20);
    due("12: stays", t.rolls(0, 0), 0);
    due("12: falls", t.rolls(1, 1), 113);
    due("12: nothing changed", t.marble(1, 1), 12);
    due("12: no act", t.count(10), 0);
    due("12: marble 2, wrong way", t.rolls(2, 4), UNKNOWN);
    due("12: way 4", t.rolls(0, 4), OUTSIDE);
    due("12: way -1", t.rolls(0, -1), OUTSIDE);
    t.tilt(1);
    due("12: in", t.rolls(1, 2), 113);
  }

  private static void promise13() {
    TiltTray t = tray("TMm0Ma3OnOu");
    due("13: safe", t.safe(), 15 - 2 - 4);
    t.tilt(1);
    due("13: one is in", t.safe(), 15 - 4);
    t.tilt(2);
    due("13: both are in", t.safe(), 15);
    due("13: empty", new TiltTray().safe(), 15);
    due("13: not to the left", tray("TMm0Ok").safe(), 14);
    due("13: nor to the front", tray("TMm0Ow").safe(), 7);
    due("13: nor onto cell 0", tray("TMc0Oa").safe(), 14);
  }

  private static void promise14() {
    TiltTray t = tray("TMa0Oy");
    due("14: how many", t.fewest(0, false), 2);
    due("14: row", t.fewest(0, true), 24);
    t.tilt(1);
    due("14: one left", t.fewest(0, true), 4);
    t.tilt(3);
    due("14: in: how many", t.fewest(0, false), 0);
    due("14: in: row", t.fewest(0, true), 0);
    due("14: marble 1", t.fewest(1, false), UNKNOWN);
    due("14: marble -1", t.fewest(-1, true), UNKNOWN);
    t = tray("TMa2Oj");
    due("14: five", t.fewest(0, false), 5);
    due("14: five, row", t.fewest(0, true), 22224);
    t = tray("TMa2Oo");
    due("14: six", t.fewest(0, false), NONE);
    due("14: six, row", t.fewest(0, true), NONE);
    t = tray("TMm0On");
    due("14: one", t.fewest(0, true), 2);
    due("14: nothing changed", t.marble(0, 1), 12);
    due("14: to the left", tray("TMm0Ok").fewest(0, true), 1);
    due("14: to cell 0", tray("TMm0Oa").fewest(0, true), 13);
    due("14: the wax one makes way", tray("TMa0Mb2WfOd").fewest(0, true), 42);
    due("14: so as the third", tray("TMa0My0Mb2WfOd").fewest(0, true), 42);
    due("14: so as the last", tray("TMa0My0Mx0Mb2WfOd").fewest(0, true), 42);
    due("14: so before it", tray("TMb2Ma0WfOd").fewest(1, true), 42);
    t = tray("TMb0Oe");
    due("14: least as a number, not by way of another length", t.fewest(0, true), 2);
  }

  private static void promise15() {
    due("15: glass", tray("TMa0").reach(0), bits(0, 4, 20, 24));
    int near = 0;
    for (int cell = 0; cell < 25; cell++) near |= cell / 5 + cell % 5 <= 4 ? 1 << cell : 0;
    due("15: wax, 4 tilts", tray("TMa2").reach(0), near);
    TiltTray t = tray("TMa0Oe");
    due("15: not in a hole", t.reach(0), bits(0, 20, 24));
    t.tilt(1);
    due("15: in", t.reach(0), 0);
    due("15: marble 1", t.reach(1), UNKNOWN);
    due("15: marble -1", t.reach(-1), UNKNOWN);
    due("15: 0 tilts too", tray("TMm0").reach(0), bits(12, 10, 14, 2, 22, 0, 4, 20, 24));
    t = tray("TMm1Nr");
    due("15: held", t.reach(0), bits(12));
  }

  private static void promise16() {
    TiltTray t = tray("TMa0Mu0OeOy");
    due("16: both", t.best(1, false), 2);
    due("16: row", t.best(1, true), 2);
    due("16: four", t.best(4, false), 2);
    due("16: the first row of four", t.best(4, true), 1112);
    due("16: nothing changed", t.count(6), bits(0, 20));
    t.tilt(1);
    due("16: those that are in count", t.best(1, false), 2);
    due("16: any row", t.best(3, true), 111);
    due("16: n 0", t.best(0, true), OUTSIDE);
    due("16: n 5", t.best(5, false), OUTSIDE);
    t = tray("TMa2Of");
    due("16: wax", t.best(1, true), 4);
    due("16: two", t.best(2, true), 14);
    t = tray("TMa0");
    due("16: no hole", t.best(2, false), 0);
    due("16: no hole, row", t.best(2, true), 11);
    t = tray("TMa2Oc");
    due("16: too few", t.best(1, false), 0);
    due("16: just enough", t.best(2, true), 22);
    t = tray("TMa0OmOn");
    due("16: fewer than there is room for", t.best(2, false), 0);
    due("16: then too the first row", t.best(2, true), 11);
  }

  private static void promise17() {
    TiltTray t = tray("TMa0Oe");
    due("17: least cell", t.saves(0, 1), 1);
    due("17: unhurt", t.saves(0, 3), 25);
    due("17: marble 1, wrong way", t.saves(1, 4), UNKNOWN);
    due("17: way 4", t.saves(0, 4), OUTSIDE);
    due("17: way -1", t.saves(0, -1), OUTSIDE);
    t.wedge(10);
    t.wedge(11);
    due("17: third", t.saves(0, 1), 1);
    t.wedge(12);
    due("17: no wedge is left", t.saves(0, 1), NONE);
    t.wedge(12);
    t.tilt(1);
    due("17: in", t.saves(0, 1), STATE);
    due("17: in, wrong way", t.saves(0, 7), OUTSIDE);
    due("17: too near", tray("TMd0Oe").saves(0, 1), NONE);
    t = tray("TMa0FbWkOe");
    due("17: not on felt", t.saves(0, 1), 2);
    t.wedge(2);
    due("17: is so already", t.saves(0, 1), 25);
    t = tray("TMh0Mf0Oj");
    due("17: not where a marble is", t.saves(0, 1), 8);
    due("17: nothing changed", t.count(8), 0);
    due("17: at cell 0", tray("TMk0Oa").saves(0, 2), 5);
    t = tray("TMe0Oa");
    due("17: to the left", t.saves(0, 0), 1);
    due("17: to the front", tray("TMc0Om").saves(0, 3), 7);
    t = tray("TMc0Me0Ob");
    t.tilt(0);
    t.lift(1, 1);
    t.lift(0, 4);
    due("17: cell 0, by which another one stays on the hole", t.saves(0, 0), 0);
    t = tray("TMm0Mb3On");
    due("17: another one's way does not help", t.saves(0, 1), NONE);
    t = tray("TMl2Mc2On");
    t.lift(0, 12);
    due("17: nor does a wall of the row behind", t.saves(0, 1), NONE);
  }

  private static void judgedDoings() {
    TiltTray t = tray("TMa0Oe");
    due("18: it is in", t.judge(2, 1201), NONE);
    due("18: it is in, told not", t.judge(2, 1200), 1);
    due("18: not in", t.judge(1, 200), NONE);
    due("18: not in, told in", t.judge(1, 201), 0);
    due("18: way 4", t.judge(1, 4), 0);
    due("18: second figure", t.judge(1, 10), 0);
    due("18: cell 25", t.judge(1, 125), 0);
    due("18: hole", t.judge(1, 104), 0);
    due("18: marble there", t.judge(1, 100), 0);
    due("18: marble went", t.judge(2, 3100), NONE);
    due("18: marble 1", t.judge(1, 210), 0);
    due("18: figure 2", t.judge(1, 202), 0);
    due("18: doing 3", t.judge(1, 300), 0);
    due("18: doing 9", t.judge(1, 999), 0);
    due("18: four wedges", t.judge(4, 101102103106L), 3);
    due("18: one not any more", t.judge(4, 101102101103L), NONE);
    due("18: a wedge holds", t.judge(3, 102001200L), NONE);
    due("18: a wedge is off", t.judge(4, 102102001201L), NONE);
    due("18: first of two", t.judge(4, 201201L), 2);
    due("18: row 0", t.judge(1, 0), NONE);
    due("18: row 0 of four", t.judge(4, 0), NONE);
    t = tray("TMa0Mf0Oj");
    due("18: the second marble", t.judge(3, 210001211L), NONE);
    due("18: the second marble, told not", t.judge(2, 1210L), 1);
    due("18: the first is not", t.judge(2, 1201L), 1);
    t = tray("TMa0Oe");
    due("18: nothing changed", t.count(6) + t.count(8) + t.count(9) + t.count(10), 1);
  }

  private static void promise18() {
    judgedDoings();
    TiltTray t = tray("TMa0Oe");
    due("18: n 0", t.judge(0, 0), OUTSIDE);
    due("18: n 5", t.judge(5, 0), OUTSIDE);
    due("18: row -1", t.judge(1, -1), OUTSIDE);
    due("18: row least", t.judge(4, Long.MIN_VALUE), OUTSIDE);
    due("18: four figures", t.judge(1, 1000), OUTSIDE);
    due("18: seven figures", t.judge(2, 1000000), OUTSIDE);
    due("18: six figures", t.judge(2, 999999), 0);
    due("18: thirteen figures", t.judge(4, 1000000000000L), OUTSIDE);
    due("18: twelve figures", t.judge(4, 999999999999L), 0);
    due("18: longest", t.judge(4, Long.MAX_VALUE), OUTSIDE);
    t.wedge(10);
    t.wedge(11);
    t.wedge(12);
    due("18: wedges that are", t.judge(1, 113), 0);
    due("18: one of them off first", t.judge(2, 110113), NONE);
  }

  private static void promise19to20() {
    TiltTray t = new TiltTray();
    due("19: cell 25, wrong way", t.see(25, 4, 0), UNKNOWN);
    due("19: cell -1", t.see(-1, 0, 0), UNKNOWN);
    due("19: way 4", t.see(0, 4, 0), OUTSIDE);
    due("19: way -1", t.see(0, -1, 0), OUTSIDE);
    due("19: came 26", t.see(0, 0, 26), OUTSIDE);
    due("19: came -1", t.see(0, 0, -1), OUTSIDE);
    due("19: none yet", t.count(11), 0);
    for (int i = 1; i <= 6; i++) due("19: seen", t.see(24, 3, 25), i);
    due("19: seventh", t.see(0, 0, 0), FULL);
    due("19: seventh, wrong", t.see(0, 0, 26), OUTSIDE);
    due("20: unsee", t.unsee(), 6);
    due("20: again", t.unsee(), 0);
    due("20: none", t.count(11), 0);
    due("20: anew", t.see(0, 0, 0), 1);
  }

  private static int hiddenBy(String text, int cell, int way, int came) {
    TiltTray t = tray(text);
    t.see(cell, way, came);
    return t.hidden();
  }

  private static void promise21() {
    due("21: nothing seen", new TiltTray().hidden(), ALL);
    due("21: all but what is told", tray("TWaObFcNdMe0").hidden(), ALL - 15);
    due("21: one wall", hiddenBy("T", 0, 1, 2), bits(3));
    due("21: no wall on the way", hiddenBy("T", 0, 1, 4), ALL - 31);
    due("21: it can not be", hiddenBy("T", 0, 1, 5), 0);
    due("21: marbles set aside", hiddenBy("TMb0", 0, 1, 4), ALL - 31);
    due("21: put at a wall", hiddenBy("TWa", 0, 1, 0), 0);
    due("21: put at a magnet", hiddenBy("TNa", 0, 1, 4), 0);
    due("21: put at a hole", hiddenBy("TOa", 0, 1, 4), 0);
    due("21: put on felt", hiddenBy("TFa", 0, 1, 4), ALL - 31);
    due("21: put at a marble's", hiddenBy("TMa0", 0, 1, 4), ALL - 31);
    due("21: over felt", hiddenBy("TFc", 0, 1, 4), ALL - 31);
    due("21: beside a magnet", hiddenBy("TNh", 0, 1, 4), ALL - 31 - bits(7));
    due("21: before a magnet", hiddenBy("TNc", 0, 1, 1), ALL - 7);
    due("21: fell", hiddenBy("TOc", 0, 1, 25), ALL - 7);
    due("21: told as at the hole", hiddenBy("TOc", 0, 1, 2), 0);
    due("21: saved by the wall", hiddenBy("TOe", 0, 1, 1), bits(2));
    TiltTray t = tray("TMa0Oc");
    t.tilt(1);
    t.wedge(1);
    t.see(0, 1, 25);
    due("21: wedges set aside, no hole full", t.hidden(), ALL - 7);
    t.see(10, 1, 11);
    due("21: two seen", t.hidden(), bits(12));
    t.see(22, 2, 17);
    due("21: three seen", t.hidden(), bits(12));
    t.see(5, 1, 8);
    due("21: four seen", t.hidden(), 0);
    due("21: nothing changed", t.count(7) + t.count(8), bits(2, 1));
    t = tray("TMh3");
    t.see(5, 3, 15);
    t.see(24, 0, 21);
    due("21: by two ways", t.hidden(), bits(20));
  }

  private static void shareOf(String name, TiltTray t, int marble, int above, int below) {
    fraction("22: " + name, t.share(marble, true), t.share(marble, false), above, below);
  }

  private static void promise22() {
    shareOf("alone", tray("TMa0Oe"), 0, 1, 1);
    shareOf("never", tray("TMa0"), 0, 0, 1);
    TiltTray t = tray("TMa0Mb0Oe");
    shareOf("of two", t, 0, 1, 2);
    shareOf("of two, the other", t, 1, 1, 2);
    t = tray("TMa0Mb0Mc0Oe");
    for (int m = 0; m < 3; m++) shareOf("of three", t, m, 1, 3);
    t.tilt(1);
    shareOf("in", t, 2, 1, 1);
    shareOf("the hole stays full", t, 0, 0, 1);
    t = tray("TMa0Mb0Mc0Md0Oe");
    for (int m = 0; m < 4; m++) shareOf("of four", t, m, 1, 4);
    t = tray("TMa0Mw2Mx0OkFo");
    shareOf("below 0", t, 1, -1, 6);
    due("22: nothing changed", t.count(6), bits(0, 22, 23));
    due("22: marble 3", t.share(3, true), UNKNOWN);
    due("22: marble 3, below", t.share(3, false), UNKNOWN);
    due("22: marble -1", t.share(-1, true), UNKNOWN);
    due("22: three tilts are too many", tray("TMa2Od").share(0, true), 0);
    due("22: two are not", tray("TMa2Oc").share(0, true), 1);
  }

  private static void promise23() {
    TiltTray t = new TiltTray();
    due("23: empty", t.rests(0), 12);
    due("23: empty, the first", t.rests(1), 1);
    t = tray("TMa0Oe");
    due("23: the one's marble", t.rests(0), 5);
    due("23: the first", t.rests(1), 1);
    t = tray("TMm0Ma3Oo");
    due("23: two marbles", t.rests(0), 3);
    due("23: two marbles, the first", t.rests(1), 10);
    due("23: both fall by ways that are alike", tray("TMa2Mf2OcOh").rests(0), 13);
    due("23: what 2", t.rests(2), OUTSIDE);
    due("23: what -1", t.rests(-1), OUTSIDE);
    t = tray("TMs0Mg1Mh1Mv0ObOyWqWdWiFn");
    due("23: no pair", t.rests(0), 0);
    due("23: no first", t.rests(1), NONE);
    due("23: nothing changed", t.count(6), bits(18, 6, 7, 21));
  }

  private static void failsOf(String name, TiltTray t, int n, int row, int x, int above, int below) {
    fraction("24: " + name, t.fails(0, n, row, x, true), t.fails(0, n, row, x, false), above, below);
  }

  private static void promise24() {
    TiltTray t = tray("TMa0Oe");
    failsOf("one", t, 1, 2, 3, 7, 10);
    failsOf("one, in least terms", t, 1, 2, 5, 1, 2);
    failsOf("one, mostly", t, 1, 2, 9, 1, 10);
    failsOf("two, mostly", t, 2, 42, 9, 9, 100);
    failsOf("two", t, 2, 22, 5, 3, 4);
    failsOf("never fails", t, 1, 2, 0, 1, 1);
    failsOf("always fails", t, 4, 2222, 10, 0, 1);
    failsOf("another way", t, 4, 1313, 0, 0, 1);
    failsOf("four", t, 4, 2222, 1, 9999, 10000);
    failsOf("front spoils it", t, 2, 42, 4, 6, 25);
    t.tilt(1);
    failsOf("in", t, 3, 111, 10, 1, 1);
    t = tray("TMa0OyWt");
    failsOf("by order", t, 2, 42, 1, 81, 100);
    failsOf("by the other order", t, 2, 24, 1, 0, 1);
    due("24: nothing changed", t.count(6), 1);
    for (int i = 0; i < 2; i++) {
      boolean upper = i == 0;
      due("24: marble 1", t.fails(1, 0, 0, -1, upper), UNKNOWN);
      due("24: n 0", t.fails(0, 0, 0, 5, upper), OUTSIDE);
      due("24: n 5", t.fails(0, 5, 11111, 5, upper), OUTSIDE);
      due("24: figure 5", t.fails(0, 1, 5, 5, upper), OUTSIDE);
      due("24: figure 0", t.fails(0, 2, 10, 5, upper), OUTSIDE);
      due("24: figure 0 within", t.fails(0, 3, 101, 5, upper), OUTSIDE);
      due("24: too short", t.fails(0, 2, 1, 5, upper), OUTSIDE);
      due("24: too long", t.fails(0, 1, 11, 5, upper), OUTSIDE);
      due("24: too long by 5", t.fails(0, 4, 11111, 5, upper), OUTSIDE);
      due("24: below 0", t.fails(0, 1, -1, 5, upper), OUTSIDE);
      due("24: least", t.fails(0, 4, Integer.MIN_VALUE, 5, upper), OUTSIDE);
      due("24: x -1", t.fails(0, 1, 1, -1, upper), OUTSIDE);
      due("24: x 11", t.fails(0, 1, 1, 11, upper), OUTSIDE);
    }
  }

  private static void promise25() {
    TiltTray t = new TiltTray();
    due("25: at first", t.seed(-5), 0);
    due("25: then", t.seed(Long.MAX_VALUE), -5);
    due("25: then", t.seed(0), Long.MAX_VALUE);
  }

  private static long next(long seed) {
    return java.math.BigInteger.valueOf(seed).multiply(new java.math.BigInteger("6364136223846793005"))
        .add(new java.math.BigInteger("1442695040888963407")).longValue();
  }

  /** The same days by acts on another tray. */
  private static void daysFrom(String text, long seed, int m) {
    TiltTray t = tray(text);
    TiltTray acted = tray(text);
    t.seed(seed);
    long x = seed;
    int together = 0;
    for (int day = 0; day < m; day++) {
      x = next(x);
      int drawn = (int) Long.remainderUnsigned(x >>> 33, 29);
      if (drawn < 25) acted.wedge(drawn);
      else acted.tilt(drawn - 25);
      together += Integer.bitCount(acted.count(7));
    }
    int before = t.count(6);
    due("26: days(" + m + ") of " + text + " from " + seed, t.days(m), together);
    due("26: nothing changed", t.count(6), before);
    due("26: nothing wedged", t.count(8) + t.count(9) + t.count(10), 0);
    due("26: seed", t.seed(0), x);
  }

  private static void promise26() {
    for (long seed = -3; seed < 30; seed++) {
      daysFrom("TMa0Mm1Mn2My3OeOiOuFhNg", seed * 987654321987L, 30);
      daysFrom("TMa0Mm0OeOw", seed, 1 + (int) (seed + 3) % 30);
    }
    TiltTray t = new TiltTray();
    due("26: m 0", t.days(0), OUTSIDE);
    due("26: m 31", t.days(31), OUTSIDE);
    due("26: refused: the seed stays", t.seed(5), 0);
    due("26: empty", t.days(30), 0);
  }

  private static void promise27to28() {
    TiltTray t = tray("TMa0Oe");
    due("28: none kept", t.again(0), STATE);
    due("27: slot 2", t.keep(2), UNKNOWN);
    due("27: slot -1", t.keep(-1), UNKNOWN);
    due("28: slot 2", t.again(2), UNKNOWN);
    due("28: slot -1", t.again(-1), UNKNOWN);
    due("27: keep", t.keep(0), 0);
    t.wedge(12);
    t.tilt(1);
    due("27: keep another", t.keep(1), 1);
    due("27: the row of acts stays", t.count(10), 2);
    t.tilt(1);
    due("28: again", t.again(0), 0);
    due("28: acts are gone", t.count(10), 0);
    due("28: none to undo", t.undo(), STATE);
    due("28: marbles", t.marble(0, 1), 0);
    due("28: holes, wedges, tilts", t.count(7) + t.count(8) + t.count(9), 0);
    due("28: its cell", t.count(6), 1);
    due("28: the other one", t.again(1), 1);
    due("28: in", t.marble(0, 1), 104);
    due("28: full", t.count(7), bits(4));
    due("28: wedged", t.count(8), bits(12));
    t.lift(0, 3);
    due("28: once more, as it was kept", t.again(1), 1);
    due("28: in once more", t.marble(0, 1), 104);
    due("28: acts go on", t.tilt(0) + t.undo(), 0);
    due("27: kept over", t.keep(0), 1);
    due("28: the new one", t.again(0), 1);
  }

  private static void promise29() {
    TiltTray t = tray("TWaWbOcFdNeMf0Mg1");
    int[] want = {17, 2, bits(0, 1), bits(2), bits(3), bits(4), bits(5, 6), 0, 0, 0, 0, 0};
    for (int what = 0; what < 12; what++) due("29: count(" + what + ")", t.count(what), want[what]);
    t.lift(0, 7);
    t.tilt(2);
    t.wedge(24);
    t.see(0, 0, 0);
    int[] then = {17, 2, bits(0, 1), bits(2), bits(3), bits(4), bits(6), bits(2), bits(24), 1, 3, 1};
    for (int what = 0; what < 12; what++) due("29: then count(" + what + ")", t.count(what), then[what]);
    due("29: what 12", t.count(12), OUTSIDE);
    due("29: what -1", t.count(-1), OUTSIDE);
  }

  public static void main(String[] args) {
    promise1();
    promise2();
    promise3();
    promise4();
    promise5();
    promise6();
    promise7();
    promise8();
    promise9();
    promise10();
    promise11();
    promise12();
    promise13();
    promise14();
    promise15();
    promise16();
    promise17();
    promise18();
    promise19to20();
    promise21();
    promise22();
    promise23();
    promise24();
    promise25();
    promise26();
    promise27to28();
    promise29();
    System.out.println(wrong == 0 ? "all promises are kept" : wrong + " answers are not as due");
    if (wrong != 0) System.exit(1);
  }
}
