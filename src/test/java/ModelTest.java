import java.util.ArrayList;
import java.util.HashSet;
import java.util.List;
import java.util.Random;
import java.util.Set;
import java.util.TreeSet;

/**
 * Runs of calls drawn by a fixed seed, each answer held against a model that was written apart from the class, as
 * near to the document's words as can be (sets, whole rows written out, every order of marbles).
 */
public final class ModelTest {
  private static final int UNKNOWN = -1, OUTSIDE = -2, STATE = -3, FULL = -4, NONE = -9;
  private static int wrong = 0;

  /** How all stands: where marbles are ("b3": at cell 3; "h3": in the hole at 3; "-": not there). */
  private static final class Standing {
    final List<String> where = new ArrayList<>();
    final Set<Integer> full = new TreeSet<>();
    final Set<Integer> wedged = new TreeSet<>();
    int tilts = 0;

    Standing copy() {
      Standing c = new Standing();
      c.where.addAll(where);
      c.full.addAll(full);
      c.wedged.addAll(wedged);
      c.tilts = tilts;
      return c;
    }

    boolean in(int m) { return where.get(m).startsWith("h"); }
    boolean on(int m) { return where.get(m).startsWith("b"); }
    int cell(int m) { return Integer.parseInt(where.get(m).substring(1)); }
    int told(int m) { return (in(m) ? 100 : 0) + cell(m); }

    int occupant(int cell) { return where.indexOf("b" + cell); }

    int fallen() {
      int n = 0;
      for (int m = 0; m < where.size(); m++) if (in(m)) n++;
      return n;
    }
  }

  private static final class Model {
    String text = "";
    Set<Integer> walls = new TreeSet<>(), holes = new TreeSet<>(), felt = new TreeSet<>(), magnets = new TreeSet<>();
    String kinds = "";
    Standing now = new Standing();
    final List<Standing> acts = new ArrayList<>();
    final Standing[] slots = new Standing[2];
    final List<int[]> seen = new ArrayList<>();
    long seed = 0;

    // -- the text: a table is what the grammar below makes; the fault is found by trying every shorter text

    static boolean isTable(String t) { return parts(t) != null; }

    /** Whether something can come behind t that makes it a table: tried with the few endings that matter. */
    static boolean canGoOn(String t) {
      if (isTable(t)) return true;
      if (t.isEmpty()) return true;
      for (char c = 'a'; c <= 'y'; c++) {
        if (isTable(t + c) || isTable(t + c + "0")) return true;
      }
      return isTable(t + "0");
    }

    static List<String> parts(String t) {
      if (!t.startsWith("T")) return null;
      List<String> parts = new ArrayList<>();
      Set<Character> cells = new HashSet<>();
      String rest = t.substring(1);
      while (!rest.isEmpty()) {
        int size = rest.charAt(0) == 'M' ? 3 : 2;
        if (rest.length() < size) return null;
        String part = rest.substring(0, size);
        if (!part.matches("[WOFN][a-y]|M[a-y][0-3]")) return null;
        if (!cells.add(part.charAt(1))) return null;
        parts.add(part);
        rest = rest.substring(size);
      }
      String firsts = "";
      for (String p : parts) firsts += p.charAt(0);
      if (many(firsts, 'W') > 6 || many(firsts, 'O') > 3 || many(firsts, 'F') > 3 || many(firsts, 'N') > 2
          || many(firsts, 'M') > 4) return null;
      return parts;
    }

    static int many(String s, char c) {
      int n = 0;
      for (char d : s.toCharArray()) if (d == c) n++;
      return n;
    }

    int fault() {
      for (int i = 0; i < text.length(); i++) if (!canGoOn(text.substring(0, i + 1))) return i;
      return isTable(text) ? NONE : text.length();
    }

    int table() {
      if (fault() != NONE) return STATE;
      walls = new TreeSet<>();
      holes = new TreeSet<>();
      felt = new TreeSet<>();
      magnets = new TreeSet<>();
      kinds = "";
      now = new Standing();
      for (String p : parts(text)) {
        int cell = p.charAt(1) - 'a';
        if (p.charAt(0) == 'W') walls.add(cell);
        if (p.charAt(0) == 'O') holes.add(cell);
        if (p.charAt(0) == 'F') felt.add(cell);
        if (p.charAt(0) == 'N') magnets.add(cell);
        if (p.charAt(0) == 'M') {
          kinds += p.charAt(2);
          now.where.add("b" + cell);
        }
      }
      acts.clear();
      slots[0] = null;
      slots[1] = null;
      return 100 * walls.size() + 10 * holes.size() + kinds.length();
    }

    // -- tilts

    static int column(int cell) { return cell % 5; }
    static int rank(int cell) { return cell / 5; }

    static boolean beside(int a, int b) {
      return Math.abs(column(a) - column(b)) + Math.abs(rank(a) - rank(b)) == 1;
    }

    static int step(int cell, int way) {
      int c = column(cell) + (way == 0 ? -1 : way == 1 ? 1 : 0);
      int r = rank(cell) + (way == 2 ? -1 : way == 3 ? 1 : 0);
      return c < 0 || c > 4 || r < 0 || r > 4 ? -1 : 5 * r + c;
    }

    boolean nearMagnet(int cell) {
      for (int m : magnets) if (beside(m, cell)) return true;
      return false;
    }

    boolean canBe(Standing s, int cell) {
      return !walls.contains(cell) && !magnets.contains(cell) && s.occupant(cell) < 0 && !s.wedged.contains(cell);
    }

    Standing tilted(Standing from, int way) {
      Standing s = from.copy();
      int[] opposite = {1, 0, 3, 2};
      Set<Integer> stopped = new HashSet<>();
      for (int m = 0; m < kinds.length(); m++) {
        if (kinds.charAt(m) == '1' && s.on(m) && nearMagnet(s.cell(m))) stopped.add(m);
      }
      boolean again = true;
      while (again) {
        again = false;
        for (int m = 0; m < kinds.length(); m++) {
          if (!s.on(m) || stopped.contains(m)) continue;
          char kind = kinds.charAt(m);
          int to = step(s.cell(m), kind == '3' ? opposite[way] : way);
          if (to < 0 || !canBe(s, to)) continue;
          again = true;
          if (holes.contains(to) && !s.full.contains(to)) {
            s.where.set(m, "h" + to);
            s.full.add(to);
            continue;
          }
          s.where.set(m, "b" + to);
          if (kind == '2') stopped.add(m);
          if (kind != '0' && felt.contains(to)) stopped.add(m);
          if (kind == '1' && nearMagnet(to)) stopped.add(m);
        }
      }
      s.tilts++;
      return s;
    }

    Standing tiltedBy(Standing from, String row) {
      Standing s = from;
      for (char f : row.toCharArray()) s = tilted(s, f - '1');
      return s;
    }

    static List<String> rows(int n) {
      List<String> rows = new ArrayList<>(List.of(""));
      for (int i = 0; i < n; i++) {
        List<String> longer = new ArrayList<>();
        for (String r : rows) for (char f = '1'; f <= '4'; f++) longer.add(r + f);
        rows = longer;
      }
      return rows;
    }

    int wedgeAnswer(Standing s, int cell) {
      if (cell < 0 || cell > 24) return UNKNOWN;
      if (walls.contains(cell) || holes.contains(cell) || felt.contains(cell) || magnets.contains(cell)
          || s.occupant(cell) >= 0) return STATE;
      if (s.wedged.contains(cell)) return 0;
      return s.wedged.size() == 3 ? FULL : 1;
    }

    int turnWedge(Standing s, int cell) {
      int answer = wedgeAnswer(s, cell);
      if (answer == 0) s.wedged.remove(cell);
      if (answer == 1) s.wedged.add(cell);
      return answer;
    }

    void remember() {
      acts.add(now.copy());
      if (acts.size() > 14) acts.remove(0);
    }

    boolean known(int m) { return m >= 0 && m < kinds.length(); }

    int cell(int cell, int what) {
      if (cell < 0 || cell > 24) return UNKNOWN;
      if (what < 0 || what > 3) return OUTSIDE;
      if (what == 0) {
        return walls.contains(cell) ? 1 : holes.contains(cell) ? 2 : felt.contains(cell) ? 3
            : magnets.contains(cell) ? 4 : 0;
      }
      if (what == 1) return now.occupant(cell) < 0 ? NONE : now.occupant(cell);
      return (what == 2 ? now.full : now.wedged).contains(cell) ? 1 : 0;
    }

    int marble(int m, int what) {
      if (!known(m)) return UNKNOWN;
      if (what < 0 || what > 3) return OUTSIDE;
      if (what == 0) return kinds.charAt(m) - '0';
      if (what == 1) return now.told(m);
      int bits = 0;
      for (int way = 0; way < 4; way++) {
        Standing s = tilted(now, way);
        boolean falls = s.in(m) && !now.in(m);
        boolean elsewhere = s.told(m) != now.told(m);
        if (what == 2 ? elsewhere : falls) bits += 1 << way;
      }
      return bits;
    }

    int tilt(int way) {
      if (way < 0 || way > 3) return OUTSIDE;
      remember();
      Standing s = tilted(now, way);
      int fell = s.fallen() - now.fallen();
      now = s;
      return fell;
    }

    int lift(int m, int cell) {
      if (!known(m) || cell < 0 || cell > 24) return UNKNOWN;
      if (now.cell(m) == cell) return STATE;
      if (!canBe(now, cell)) return STATE;
      if (holes.contains(cell) && !now.full.contains(cell)) return STATE;
      remember();
      int was = now.told(m);
      if (now.in(m)) now.full.remove(now.cell(m));
      now.where.set(m, "b" + cell);
      return was;
    }

    int wedge(int cell) {
      int answer = wedgeAnswer(now, cell);
      if (answer < 0) return answer;
      remember();
      return turnWedge(now, cell);
    }

    int undo() {
      if (acts.isEmpty()) return STATE;
      now = acts.remove(acts.size() - 1);
      return acts.size();
    }

    int rolls(int m, int way) {
      if (!known(m)) return UNKNOWN;
      if (way < 0 || way > 3) return OUTSIDE;
      return tilted(now, way).told(m);
    }

    int safe() {
      int bits = 0;
      for (int way = 0; way < 4; way++) if (tilted(now, way).fallen() == now.fallen()) bits += 1 << way;
      return bits;
    }

    int fewest(int m, boolean row) {
      if (!known(m)) return UNKNOWN;
      List<String> rows = new ArrayList<>(List.of(""));
      List<Standing> behind = new ArrayList<>(List.of(now));
      for (int n = 0; n <= 5; n++) {
        for (int i = 0; i < rows.size(); i++) {
          if (behind.get(i).in(m)) return !row ? n : n == 0 ? 0 : Integer.parseInt(rows.get(i));
        }
        if (n == 5) break;
        List<String> longer = new ArrayList<>();
        List<Standing> further = new ArrayList<>();
        for (int i = 0; i < rows.size(); i++) {
          for (int way = 0; way < 4; way++) {
            longer.add(rows.get(i) + (way + 1));
            further.add(tilted(behind.get(i), way));
          }
        }
        rows = longer;
        behind = further;
      }
      return NONE;
    }

    int reach(int m) {
      if (!known(m)) return UNKNOWN;
      int bits = 0;
      for (int n = 0; n <= 4; n++) {
        for (String row : rows(n)) {
          Standing s = tiltedBy(now, row);
          if (s.on(m)) bits |= 1 << s.cell(m);
        }
      }
      return bits;
    }

    int[] bestOf(Standing from, int n) {
      int most = -1;
      int first = 0;
      for (String row : rows(n)) {
        int fallen = tiltedBy(from, row).fallen();
        if (fallen > most) {
          most = fallen;
          first = Integer.parseInt(row);
        }
      }
      return new int[] {most, first};
    }

    int best(int n, boolean row) {
      if (n < 1 || n > 4) return OUTSIDE;
      return bestOf(now, n)[row ? 1 : 0];
    }

    int saves(int m, int way) {
      if (!known(m)) return UNKNOWN;
      if (way < 0 || way > 3) return OUTSIDE;
      if (now.in(m)) return STATE;
      if (!tilted(now, way).in(m)) return 25;
      for (int cell = 0; cell < 25; cell++) {
        Standing s = now.copy();
        if (turnWedge(s, cell) == 1 && !tilted(s, way).in(m)) return cell;
      }
      return NONE;
    }

    int judge(int n, long row) {
      if (n < 1 || n > 4 || row < 0) return OUTSIDE;
      String figures = Long.toString(row);
      if (figures.length() > 3 * n) return OUTSIDE;
      while (figures.length() < 3 * n) figures = "0" + figures;
      Standing s = now.copy();
      for (int i = 0; i < n; i++) {
        String doing = figures.substring(3 * i, 3 * i + 3);
        if (doing.matches("00[0-3]")) {
          s = tilted(s, doing.charAt(2) - '0');
        } else if (doing.startsWith("1")) {
          if (turnWedge(s, Integer.parseInt(doing.substring(1))) < 0) return i;
        } else if (doing.matches("2[0-3][01]") && known(doing.charAt(1) - '0')) {
          if (s.in(doing.charAt(1) - '0') != (doing.charAt(2) == '1')) return i;
        } else {
          return i;
        }
      }
      return NONE;
    }

    int see(int cell, int way, int came) {
      if (cell < 0 || cell > 24) return UNKNOWN;
      if (way < 0 || way > 3 || came < 0 || came > 25) return OUTSIDE;
      if (seen.size() == 6) return FULL;
      seen.add(new int[] {cell, way, came});
      return seen.size();
    }

    int hidden() {
      int bits = 0;
      for (int cell = 0; cell < 25; cell++) {
        if (walls.contains(cell) || holes.contains(cell) || felt.contains(cell) || magnets.contains(cell)) continue;
        Model other = new Model();
        other.walls.addAll(walls);
        other.walls.add(cell);
        other.holes.addAll(holes);
        other.felt.addAll(felt);
        other.magnets.addAll(magnets);
        other.kinds = "0";
        boolean does = true;
        for (int[] s : seen) {
          if (other.walls.contains(s[0]) || magnets.contains(s[0]) || holes.contains(s[0])) {
            does = false;
            continue;
          }
          Standing start = new Standing();
          start.where.add("b" + s[0]);
          Standing end = other.tilted(start, s[1]);
          int came = end.in(0) ? 25 : end.cell(0);
          if (came != s[2]) does = false;
        }
        if (does) bits += 1 << cell;
      }
      return bits;
    }

    static int fraction(long above, long below, boolean upper) {
      for (long d = below; d > 1; d--) {
        if (above % d == 0 && below % d == 0) {
          above /= d;
          below /= d;
        }
      }
      return (int) (upper ? above : below);
    }

    int worth(List<Integer> come) {
      Standing s = now.copy();
      for (int m = 0; m < kinds.length(); m++) if (!come.contains(m)) s.where.set(m, "-");
      return bestOf(s, 2)[0];
    }

    int share(int m, boolean upper) {
      if (!known(m)) return UNKNOWN;
      List<List<Integer>> orders = new ArrayList<>();
      orders.add(new ArrayList<>());
      for (int i = 0; i < kinds.length(); i++) {
        List<List<Integer>> longer = new ArrayList<>();
        for (List<Integer> o : orders) {
          for (int j = 0; j <= o.size(); j++) {
            List<Integer> p = new ArrayList<>(o);
            p.add(j, i);
            longer.add(p);
          }
        }
        orders = longer;
      }
      int sum = 0;
      for (List<Integer> o : orders) {
        int at = o.indexOf(m);
        sum += worth(o.subList(0, at + 1)) - worth(o.subList(0, at));
      }
      return fraction(sum, orders.size(), upper);
    }

    int has(int player, int one, int other) {
      Standing s = tilted(tilted(now, one), other);
      int n = one == other ? -1 : 0;
      for (int m = player; m < kinds.length(); m += 2) if (s.in(m)) n++;
      return n;
    }

    int rests(int what) {
      if (what != 0 && what != 1) return OUTSIDE;
      List<Integer> resting = new ArrayList<>();
      for (int one = 0; one < 4; one++) {
        for (int other = 0; other < 4; other++) {
          boolean rest = true;
          for (int w = 0; w < 4; w++) {
            if (has(0, w, other) > has(0, one, other) || has(1, one, w) > has(1, one, other)) rest = false;
          }
          if (rest) resting.add(10 * one + other);
        }
      }
      return what == 0 ? resting.size() : resting.isEmpty() ? NONE : resting.get(0);
    }

    /** How many of 10 to the n equally likely cases have the marble in a hole. */
    int cases(Standing s, int m, String row, int x) {
      if (row.isEmpty()) return s.in(m) ? 1 : 0;
      String rest = row.substring(1);
      return x * cases(s, m, rest, x) + (10 - x) * cases(tilted(s, row.charAt(0) - '1'), m, rest, x);
    }

    int fails(int m, int n, int row, int x, boolean upper) {
      if (!known(m)) return UNKNOWN;
      String figures = Integer.toString(row);
      if (n < 1 || n > 4 || figures.length() != n || !figures.matches("[1-4]+") || x < 0 || x > 10) return OUTSIDE;
      return fraction(cases(now, m, figures, x), Math.round(Math.pow(10, n)), upper);
    }

    int days(int m) {
      if (m < 1 || m > 30) return OUTSIDE;
      Standing s = now.copy();
      int sum = 0;
      for (int i = 0; i < m; i++) {
        seed = seed * 6364136223846793005L + 1442695040888963407L;
        String bits = Long.toBinaryString(seed);
        while (bits.length() < 64) bits = "0" + bits;
        int drawn = Integer.parseInt(bits.substring(0, 31), 2) % 29;
        if (drawn < 25) turnWedge(s, drawn);
        else s = tilted(s, drawn - 25);
        sum += s.fallen();
      }
      return sum;
    }

    int keep(int slot) {
      if (slot < 0 || slot > 1) return UNKNOWN;
      slots[slot] = now.copy();
      return now.tilts;
    }

    int again(int slot) {
      if (slot < 0 || slot > 1) return UNKNOWN;
      if (slots[slot] == null) return STATE;
      now = slots[slot].copy();
      acts.clear();
      return now.tilts;
    }

    static int bits(Set<Integer> cells) {
      int bits = 0;
      for (int c : cells) bits += 1 << c;
      return bits;
    }

    int count(int what) {
      Set<Integer> taken = new TreeSet<>();
      for (int m = 0; m < kinds.length(); m++) if (now.on(m)) taken.add(now.cell(m));
      int[] all = {text.length(), kinds.length(), bits(walls), bits(holes), bits(felt), bits(magnets), bits(taken),
          bits(now.full), bits(now.wedged), now.tilts, acts.size(), seen.size()};
      return what < 0 || what >= all.length ? OUTSIDE : all[what];
    }
  }

  // -- runs

  private final Random random;
  private final int run;
  private final TiltTray tray = new TiltTray();
  private final Model model = new Model();
  private final List<String> calls = new ArrayList<>();

  private ModelTest(int run) {
    this.run = run;
    this.random = new Random(7919L * run + 1);
  }

  private void due(String call, long got, long want) {
    calls.add(call);
    if (got != want) {
      wrong++;
      if (wrong < 20) System.out.println("run " + run + ": " + calls + " answered " + got + ", due is " + want);
    }
  }

  private int pick(int from, int to) {
    if (random.nextInt(25) == 0) {
      int[] odd = {-1, from - 1, to + 1, Integer.MIN_VALUE, Integer.MAX_VALUE, 64, 100, -100};
      return odd[random.nextInt(odd.length)];
    }
    return from + random.nextInt(to - from + 1);
  }

  private int pickMarble() {
    return random.nextInt(25) == 0 ? pick(0, 4) : pick(0, Math.max(0, model.kinds.length() - 1));
  }

  private void writeLetter(int letter) {
    int want = letter < 0 || letter > 255 ? OUTSIDE : model.text.length() == 48 ? FULL : model.text.length() + 1;
    if (want > 0) model.text += (char) letter;
    due("write(" + letter + ")", tray.write(letter), want);
  }

  private void wipeText() {
    int was = model.text.length();
    model.text = "";
    due("wipe()", tray.wipe(), was);
  }

  private void writeTable() {
    wipeText();
    String text = "T";
    boolean odd = random.nextInt(6) == 0;
    int parts = random.nextInt(26);
    String firsts = "MMMMMWWWOOOOFFN";
    for (int i = 0; i < parts; i++) {
      String part = firsts.charAt(random.nextInt(firsts.length())) + "" + (char) ('a' + random.nextInt(25));
      if (part.startsWith("M")) part += (char) ('0' + random.nextInt(4));
      if (odd && random.nextInt(8) == 0 || Model.isTable(text + part)) text += part;
    }
    writeOut(odd ? spoilt(text) : text);
  }

  private String spoilt(String whole) {
    StringBuilder text = new StringBuilder(whole);
    if (random.nextInt(2) == 0) {
      text.setCharAt(random.nextInt(text.length()), (char) random.nextInt(256));
    }
    if (random.nextInt(2) == 0) text.setLength(random.nextInt(text.length() + 1));
    return text.toString();
  }

  private void writeOut(String text) {
    for (char c : text.toCharArray()) writeLetter(c);
    due("fault()", tray.fault(), model.fault());
    due("table()", tray.table(), model.table());
  }

  private void act() {
    int a = pick(0, 24);
    int m = pickMarble();
    int w = pick(0, 3);
    switch (random.nextInt(8)) {
      case 0: case 1: case 2:
        due("tilt(" + w + ")", tray.tilt(w), model.tilt(w));
        break;
      case 3: case 4:
        due("lift(" + m + ", " + a + ")", tray.lift(m, a), model.lift(m, a));
        break;
      case 5: case 6:
        due("wedge(" + a + ")", tray.wedge(a), model.wedge(a));
        break;
      default:
        due("undo()", tray.undo(), model.undo());
        break;
    }
  }

  private long drawRow(int n) {
    StringBuilder s = new StringBuilder();
    for (int i = 0; i < n; i++) {
      switch (random.nextInt(9)) {
        case 0: case 1: case 2: case 3:
          s.append("00").append(random.nextInt(4));
          break;
        case 4: case 5:
          s.append(100 + random.nextInt(26));
          break;
        case 6: case 7:
          s.append("2").append(random.nextInt(4)).append(random.nextInt(8) == 0 ? 2 : random.nextInt(4) / 3);
          break;
        default:
          s.append(String.format("%03d", random.nextInt(1000)));
          break;
      }
    }
    return s.length() == 0 ? 0 : Long.parseLong(s.toString());
  }

  private void look() {
    int a = pick(0, 24);
    int m = pickMarble();
    int w = pick(0, 3);
    int n = pick(1, 4);
    boolean b = random.nextBoolean();
    switch (random.nextInt(22)) {
      case 0:
        int k = pick(0, 3);
        due("cell(" + a + ", " + k + ")", tray.cell(a, k), model.cell(a, k));
        break;
      case 1: case 2:
        due("marble(" + m + ", " + w + ")", tray.marble(m, w), model.marble(m, w));
        break;
      case 3:
        due("rolls(" + m + ", " + w + ")", tray.rolls(m, w), model.rolls(m, w));
        break;
      case 4:
        due("safe()", tray.safe(), model.safe());
        break;
      case 5:
        due("fewest(" + m + ", " + b + ")", tray.fewest(m, b), model.fewest(m, b));
        break;
      case 6:
        due("reach(" + m + ")", tray.reach(m), model.reach(m));
        break;
      case 7: case 8:
        due("best(" + n + ", " + b + ")", tray.best(n, b), model.best(n, b));
        break;
      case 9: case 10:
        due("saves(" + m + ", " + w + ")", tray.saves(m, w), model.saves(m, w));
        break;
      case 11: case 12:
        long told = drawRow(Math.min(4, Math.max(0, n)));
        if (random.nextInt(12) == 0) told = random.nextInt(2) == 0 ? -told : told * 1000;
        due("judge(" + n + ", " + told + ")", tray.judge(n, told), model.judge(n, told));
        break;
      case 13: case 14:
        due("share(" + m + ", " + b + ")", tray.share(m, b), model.share(m, b));
        break;
      case 15: case 16:
        int what = pick(0, 1);
        due("rests(" + what + ")", tray.rests(what), model.rests(what));
        break;
      case 17: case 18:
        lookAtFails(m, n, b);
        break;
      case 19:
        int d = pick(1, 30);
        due("days(" + d + ")", tray.days(d), model.days(d));
        break;
      case 20:
        long v = random.nextInt(3) == 0 ? random.nextInt(5) : random.nextLong();
        long was = model.seed;
        model.seed = v;
        due("seed(" + v + ")", tray.seed(v), was);
        break;
      default:
        int c = pick(0, 11);
        due("count(" + c + ")", tray.count(c), model.count(c));
        break;
    }
  }

  private void lookAtFails(int m, int n, boolean b) {
    int row = 0;
    for (int i = 0; i < Math.min(4, Math.max(1, n)); i++) row = 10 * row + 1 + random.nextInt(4);
    if (random.nextInt(12) == 0) row += new int[] {5, -4, 10000, -row, -2 * row}[random.nextInt(5)];
    int x = pick(0, 10);
    due("fails(" + m + ", " + n + ", " + row + ", " + x + ", " + b + ")", tray.fails(m, n, row, x, b),
        model.fails(m, n, row, x, b));
  }

  private void sight() {
    if (random.nextInt(9) == 0) {
      int was = model.seen.size();
      model.seen.clear();
      due("unsee()", tray.unsee(), was);
      return;
    }
    int cell = pick(0, 24);
    int way = pick(0, 3);
    int came = pick(0, 25);
    if (random.nextInt(10) < 9 && cell >= 0 && cell < 25 && way >= 0 && way < 4) {
      Model other = new Model();
      other.walls.addAll(model.walls);
      other.walls.add((7 * run + 3) % 25);
      other.holes.addAll(model.holes);
      other.magnets.addAll(model.magnets);
      other.kinds = "0";
      Standing start = new Standing();
      start.where.add("b" + cell);
      Standing end = other.tilted(start, way);
      came = end.in(0) ? 25 : end.cell(0);
    }
    due("see(" + cell + ", " + way + ", " + came + ")", tray.see(cell, way, came), model.see(cell, way, came));
    due("hidden()", tray.hidden(), model.hidden());
  }

  private void slot() {
    int slot = pick(0, 1);
    if (random.nextBoolean()) due("keep(" + slot + ")", tray.keep(slot), model.keep(slot));
    else due("again(" + slot + ")", tray.again(slot), model.again(slot));
  }

  private void lookAtAll() {
    for (int what = 0; what < 12; what++) due("count(" + what + ")", tray.count(what), model.count(what));
    for (int m = 0; m < 4; m++) {
      due("marble(" + m + ", 1)", tray.marble(m, 1), model.marble(m, 1));
    }
  }

  private void go() {
    if (random.nextInt(8) != 0) writeTable();
    while (calls.size() < 400) {
      int drawn = random.nextInt(100);
      if (drawn < 40) act();
      else if (drawn < 85) look();
      else if (drawn < 91) sight();
      else if (drawn < 96) slot();
      else if (drawn < 97) writeLetter(pick(0, 255));
      else if (drawn < 98) due("fault()", tray.fault(), model.fault());
      else if (drawn < 99) writeTable();
      else lookAtAll();
    }
    lookAtAll();
  }

  public static void main(String[] args) {
    int runs = args.length > 0 ? Integer.parseInt(args[0]) : 60;
    int from = args.length > 1 ? Integer.parseInt(args[1]) : 0;
    for (int run = from; run < from + runs; run++) new ModelTest(run).go();
    System.out.println(wrong == 0 ? "all answers are as the model's" : wrong + " answers are not as the model's");
    if (wrong != 0) System.exit(1);
  }
}
