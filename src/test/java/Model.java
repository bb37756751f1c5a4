import java.util.ArrayList;
import java.util.HashMap;
import java.util.List;
import java.util.Map;
import java.util.regex.Matcher;
import java.util.regex.Pattern;

/** One edition by the document's words, as plainly as can be: points one by one, all pairs. */
final class Model {
  private static final String NAME = " [a-z][a-z0-9]{0,3}";
  private static final String NUMBER = " (0|[1-9][0-9]*)";
  private static final Pattern TEXT = Pattern.compile("(("
      + "R" + NAME + NUMBER.repeat(4)
      + "|B" + NAME.repeat(2) + NUMBER.repeat(5)
      + "|P" + NAME + NUMBER.repeat(2)
      + "|[DSC]" + NAME.repeat(2)
      + "|E" + NAME + "(" + NAME + "){1,4}"
      + "|W" + NAME.repeat(2) + " [=>]"
      + "|A" + NAME.repeat(2)
      + ")\n)*");
  private static final Pattern PART = Pattern.compile(" ([a-z][a-z0-9]{0,3}|0|[1-9][0-9]*|[=>])");
  private static final String KINDS = "RBPDSCE";
  private static final int FAR = 1000;

  static final class Spot {
    String name;
    int kind;
    int x;
    int y;
    int w = 1;
    int h = 1;
    int level;
    int base = -1;
    int lines;
    int units;
    List<Integer> stops = new ArrayList<>();

    boolean covers(int px, int py) {
      return px >= x && px < x + w && py >= y && py < y + h;
    }
  }

  final List<Spot> spots = new ArrayList<>();
  final Map<String, Integer> names = new HashMap<>();
  final List<int[]> ways = new ArrayList<>();
  final List<int[]> serves = new ArrayList<>();
  int refused = -1;
  private int[][] steps;

  Model(String text) {
    int wrong = wrongSign(text);
    String sound = wrong < 0 ? text : text.substring(0, wrong);
    int start = 0;
    while (start < sound.length() && refused < 0) {
      int end = sound.indexOf('\n', start);
      line(sound.substring(start, end < 0 ? sound.length() : end), start, end >= 0);
      start = end < 0 ? sound.length() : end + 1;
    }
    if (refused < 0) {
      refused = wrong;
    }
  }

  boolean isTooLarge() {
    return spots.size() > 60 || ways.size() + serves.size() > 60;
  }

  /** The first sign with which no text of this form can begin, names and numbers not looked at. */
  private static int wrongSign(String text) {
    if (TEXT.matcher(text).matches()) {
      return -1;
    }
    int fine = 0;
    int wrong = text.length() + 1;
    while (wrong - fine > 1) {
      int middle = (fine + wrong) / 2;
      Matcher matcher = TEXT.matcher(text.substring(0, middle));
      if (matcher.matches() || matcher.hitEnd()) {
        fine = middle;
      } else {
        wrong = middle;
      }
    }
    return fine;
  }

  private void line(String line, int start, boolean whole) {
    List<String> parts = new ArrayList<>();
    Matcher matcher = PART.matcher(line);
    char type = line.charAt(0);
    int[] numbers = new int[9];
    while (refused < 0 && matcher.find()) {
      parts.add(matcher.group(1));
      if (!fits(type, parts, numbers)) {
        refused = start + matcher.start(1);
      }
    }
    if (refused < 0 && whole) {
      add(type, parts, numbers);
    }
  }

  /** Whether the last part may stand there; a number is noted. */
  private boolean fits(char type, List<String> parts, int[] numbers) {
    int i = parts.size() - 1;
    String part = parts.get(i);
    if (KINDS.indexOf(type) >= 0 && i == 0) {
      return !names.containsKey(part);
    }
    switch (type) {
      case 'R': return number(part, i, "xywh".charAt(i - 1), numbers);
      case 'P': return number(part, i, "xy".charAt(i - 1), numbers);
      case 'B': return i == 1 ? isKind(part, 0) : number(part, i, "lxywh".charAt(i - 2), numbers);
      case 'W': return i == 2 || isKind(part, 2) && (i == 0 || !part.equals(parts.get(0)));
      case 'A': return isKind(part, i == 0 ? 1 : 2);
      default: return isKind(part, 2);
    }
  }

  private boolean number(String part, int i, char role, int[] numbers) {
    int value = part.length() > 4 ? 9999 : Integer.parseInt(part);
    numbers[i] = value;
    switch (role) {
      case 'l': return value >= 1 && value <= 9;
      case 'x': return value < 40;
      case 'y': return value < 20;
      case 'w': return value >= 1 && numbers[i - 2] + value <= 40;
      default: return value >= 1 && numbers[i - 2] + value <= 20;
    }
  }

  private boolean isKind(String name, int kind) {
    return names.containsKey(name) && spots.get(names.get(name)).kind == kind;
  }

  private void add(char type, List<String> parts, int[] numbers) {
    if (type == 'W') {
      int a = names.get(parts.get(0));
      int b = names.get(parts.get(1));
      ways.add(new int[] {a, b, parts.get(2).charAt(0)});
      spots.get(a).lines++;
      spots.get(b).lines++;
      return;
    }
    if (type == 'A') {
      serves.add(new int[] {names.get(parts.get(0)), names.get(parts.get(1))});
      spots.get(names.get(parts.get(0))).lines++;
      return;
    }
    Spot spot = new Spot();
    spot.name = parts.get(0);
    spot.kind = KINDS.indexOf(type);
    int first = type == 'B' ? 3 : 1;
    if (type == 'R' || type == 'B' || type == 'P') {
      spot.x = numbers[first];
      spot.y = numbers[first + 1];
    }
    if (type == 'R' || type == 'B') {
      spot.w = numbers[first + 2];
      spot.h = numbers[first + 3];
    }
    if (type != 'R' && type != 'P') {
      spot.base = names.get(parts.get(1));
    }
    if (type == 'B') {
      spot.level = numbers[2];
    }
    if (spot.kind > 2) {
      spot.x = spots.get(spot.base).x;
      spot.y = spots.get(spot.base).y;
    }
    if (type == 'E') {
      for (String stop : parts.subList(1, parts.size())) {
        spot.stops.add(names.get(stop));
      }
      spot.lines = spot.stops.size();
    }
    names.put(spot.name, spots.size());
    spots.add(spot);
  }

  /** To be called before all that asks where one can go. */
  void measure() {
    int size = spots.size();
    steps = new int[size][size];
    for (int a = 0; a < size; a++) {
      for (int b = 0; b < size; b++) {
        steps[a][b] = a == b ? 0 : FAR;
      }
    }
    for (int[] way : ways) {
      steps[way[0]][way[1]] = 1;
      if (way[2] == '=') {
        steps[way[1]][way[0]] = 1;
      }
    }
    for (Spot lift : spots) {
      for (int a : lift.stops) {
        for (int b : lift.stops) {
          steps[a][b] = a == b ? 0 : 1;
        }
      }
    }
    for (int via = 0; via < size; via++) {
      for (int a = 0; a < size; a++) {
        for (int b = 0; b < size; b++) {
          steps[a][b] = Math.min(steps[a][b], steps[a][via] + steps[via][b]);
        }
      }
    }
  }

  int[] pieceRow(int piece) {
    int reached = 0;
    int nearest = FAR;
    int onward = 0;
    for (int i = 0; i < spots.size(); i++) {
      if (spots.get(i).kind == 3) {
        reached |= steps[spots.get(i).base][piece] < FAR ? 1 : 0;
        nearest = Math.min(nearest, steps[piece][spots.get(i).base]);
      }
      onward += i != piece && steps[piece][i] < FAR ? 1 : 0;
    }
    return new int[] {piece, reached, nearest < FAR ? 1 : 0, onward, nearest < FAR ? nearest : -1};
  }

  static boolean isWithin(Spot inner, Spot outer) {
    for (int x = inner.x; x < inner.x + inner.w; x++) {
      for (int y = inner.y; y < inner.y + inner.h; y++) {
        if (!outer.covers(x, y)) {
          return false;
        }
      }
    }
    return true;
  }

  private static boolean share(Spot a, Spot b) {
    for (int x = a.x; x < a.x + a.w; x++) {
      for (int y = a.y; y < a.y + a.h; y++) {
        if (b.covers(x, y)) {
          return true;
        }
      }
    }
    return false;
  }

  List<int[]> faults() {
    List<int[]> faults = new ArrayList<>();
    for (int i = 0; i < spots.size(); i++) {
      for (int kind = 1; kind <= 5; kind++) {
        int other = other(kind, i);
        if (other >= -1) {
          faults.add(new int[] {kind, i, other});
        }
      }
    }
    return faults;
  }

  /** The other one of a fault, or -2 if there is no such fault. */
  private int other(int kind, int i) {
    Spot spot = spots.get(i);
    boolean lone = spot.kind > 2 && spot.kind < 6 && !hasWayOrLift(spot.base);
    switch (kind) {
      case 1: return spot.kind == 1 && !isWithin(spot, spots.get(spot.base)) ? spot.base : -2;
      case 2: return firstShared(i);
      case 3: return spot.kind == 1 && !isServed(i) ? -1 : -2;
      case 4: return lone ? spot.base : -2;
      default: return spot.kind == 2 && hasWayOrLift(i) && pieceRow(i)[2] == 0 ? -1 : -2;
    }
  }

  private int firstShared(int i) {
    Spot spot = spots.get(i);
    for (int e = 0; e < i && spot.kind < 2; e++) {
      Spot earlier = spots.get(e);
      boolean racks = spot.kind == 0 && earlier.kind == 0;
      boolean bins = spot.kind == 1 && earlier.kind == 1
          && spot.base == earlier.base && spot.level == earlier.level;
      if ((racks || bins) && share(spot, earlier)) {
        return e;
      }
    }
    return -2;
  }

  private boolean isServed(int bin) {
    for (int[] serve : serves) {
      if (serve[0] == bin && pieceRow(serve[1])[1] == 1) {
        return true;
      }
    }
    return false;
  }

  private boolean hasWayOrLift(int piece) {
    boolean has = spots.get(piece).lines > 0;
    for (Spot spot : spots) {
      has |= spot.stops.contains(piece);
    }
    return has;
  }

  String plan() {
    StringBuilder plan = new StringBuilder();
    int end = 0;
    for (int y = 0; y < 20; y++) {
      for (int x = 0; x < 40; x++) {
        char sign = signAt(x, y);
        plan.append(sign);
        end = sign != '.' ? 41 * (y + 1) : end;
      }
      plan.append('\n');
    }
    return plan.substring(0, end);
  }

  private char signAt(int x, int y) {
    String order = "DSCE+b#.";
    int best = 7;
    for (Spot spot : spots) {
      for (int stop : spot.stops) {
        best = spots.get(stop).covers(x, y) ? Math.min(best, 3) : best;
      }
      if (spot.kind != 6 && spot.covers(x, y)) {
        best = Math.min(best, order.indexOf("#b+DSC".charAt(spot.kind)));
      }
    }
    return order.charAt(best);
  }

  List<Integer> movedTo(Model latest) {
    List<Integer> moved = new ArrayList<>();
    for (int i = 0; i < spots.size(); i++) {
      Spot bin = spots.get(i);
      boolean kept = false;
      for (Spot other : latest.spots) {
        kept |= bin.kind == 1 && other.kind == 1 && bin.name.equals(other.name)
            && bin.level == other.level && isWithin(bin, other) && isWithin(other, bin)
            && spots.get(bin.base).name.equals(latest.spots.get(other.base).name);
      }
      if (bin.units > 0 && !kept) {
        moved.add(i);
      }
    }
    return moved;
  }
}
