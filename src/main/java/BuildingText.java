import java.util.ArrayList;

/** Buildings as texts: each text that is read is an edition of the whole building. */
public final class BuildingText {
  private static final int FLOOR_WIDTH = 40;
  private static final int FLOOR_DEPTH = 20;

  private static final int RACK = 0;
  private static final int BIN = 1;
  private static final int PIECE = 2;
  private static final int DOCK = 3;
  private static final int STATION = 4;
  private static final int CHARGER = 5;
  private static final int LIFT = 6;

  private static final int LINE_END = 10;
  private static final int MOST_SIGNS = 3000;
  private static final int MOST_PLACES = 60;
  private static final int MOST_LINKS = 60;
  private static final int MOST_STOPS = 4;
  private static final int MOST_EDITION = 7;
  private static final int MOST_UNITS = 99;
  private static final int NONE = -1;

  private final char[] signs;
  private int signCount;
  private final ArrayList<Edition> editions;
  private Edition latest;
  private final Going going;
  private final Inspection inspection;
  private final Plan plan;
  private final int[] found;
  private int foundCount;

  public BuildingText() {
    signs = new char[MOST_SIGNS];
    editions = new ArrayList<>();
    latest = new Edition();
    editions.add(latest);
    going = new Going();
    inspection = new Inspection();
    plan = new Plan();
    found = new int[MOST_PLACES];
  }

  public void sign(int c) throws IllegalArgumentException, UnsupportedOperationException {
    if (c != LINE_END && (c < 32 || c > 126)) {
      throw new IllegalArgumentException("no sign of a text");
    }
    if (signCount >= MOST_SIGNS) {
      throw new UnsupportedOperationException("too many signs");
    }
    signs[signCount] = (char) c;
    signCount++;
  }

  public int read() throws UnsupportedOperationException {
    Edition edition = new Edition();
    TextReader reader = new TextReader(signs, signCount, edition);
    int refused = reader.readLines();
    // What was read is gone even if the edition is then too much for this object.
    signCount = 0;
    if (refused != NONE) {
      return -1 - refused;
    }
    if (edition.isTooLarge() || editions.size() > MOST_EDITION) {
      throw new UnsupportedOperationException("too large, or too many editions");
    }
    take(edition);
    return edition.places.size();
  }

  private void take(Edition edition) {
    editions.add(edition);
    latest = edition;
    going.learn(edition);
    inspection.inspect(edition, going);
  }

  public int place(int i, int what) throws IllegalArgumentException {
    Place place = latest.placeOrNull(i);
    if (place == null) {
      throw new IllegalArgumentException("no such place");
    }
    switch (what) {
      case 0: return place.kind;
      case 1: return place.x;
      case 2: return place.y;
      case 3: return place.w;
      case 4: return place.h;
      case 5: return place.level;
      case 6: return place.base;
      case 7: return place.lines;
      default: throw new IllegalArgumentException("no such what");
    }
  }

  public int named(int c) {
    return latest.find(c);
  }

  public int check() {
    return inspection.faults.size();
  }

  public int fault(int i, int what) throws IndexOutOfBoundsException, IllegalArgumentException {
    if (i < 0 || i >= inspection.faults.size()) {
      throw new IndexOutOfBoundsException("no such fault");
    }
    Fault fault = inspection.faults.get(i);
    switch (what) {
      case 0: return fault.kind;
      case 1: return fault.place;
      case 2: return fault.other;
      default: throw new IllegalArgumentException("no such what");
    }
  }

  public int piece(int i, int what) throws IndexOutOfBoundsException, IllegalArgumentException {
    int piece = latest.findPiece(i);
    if (piece == NONE) {
      throw new IndexOutOfBoundsException("no such piece");
    }
    switch (what) {
      case 0: return piece;
      case 1: return going.isReached(piece) ? 1 : 0;
      case 2: return going.isExiting(piece) ? 1 : 0;
      case 3: return going.countOnward(piece);
      case 4: return going.stepsToDock(piece);
      default: throw new IllegalArgumentException("no such what");
    }
  }

  public boolean inside(int bin, int rack) throws IllegalArgumentException {
    Place inner = latest.placeOrNull(bin);
    Place outer = latest.placeOrNull(rack);
    if (inner == null || inner.kind != BIN) {
      throw new IllegalArgumentException("no such bin");
    }
    if (outer == null || outer.kind != RACK) {
      throw new IllegalArgumentException("no such rack");
    }
    return outer.contains(inner);
  }

  public void fill(int edition, int i, int units) throws IllegalArgumentException {
    Edition filled = editionOrNull(edition);
    if (filled == null) {
      throw new IllegalArgumentException("no such edition");
    }
    Place bin = filled.placeOrNull(i);
    if (bin == null || bin.kind != BIN) {
      throw new IllegalArgumentException("no such bin");
    }
    if (units < 0 || units > MOST_UNITS) {
      throw new IllegalArgumentException("units out of range");
    }
    bin.units = units;
  }

  public int differ(int edition) throws IllegalArgumentException {
    Edition older = editionOrNull(edition);
    if (older == null) {
      throw new IllegalArgumentException("no such edition");
    }
    foundCount = 0;
    int units = 0;
    for (int i = 0; i < older.places.size() && foundCount < MOST_PLACES; i++) {
      Place bin = older.places.get(i);
      if (bin.kind == BIN && bin.units > 0 && !latest.keepsBin(bin, older)) {
        found[foundCount] = i;
        foundCount++;
        units += bin.units;
      }
    }
    return units;
  }

  public int moved(int i) throws IndexOutOfBoundsException {
    if (i < 0 || i >= foundCount) {
      throw new IndexOutOfBoundsException("no such bin was found");
    }
    return found[i];
  }

  public int print() {
    plan.layOut(latest);
    return plan.length;
  }

  public int at(int i) throws IndexOutOfBoundsException {
    if (i < 0 || i >= plan.length) {
      throw new IndexOutOfBoundsException("no such sign was laid out");
    }
    return plan.signs[i];
  }

  public int count(int what) {
    switch (what) {
      case 0: return latest.places.size();
      case 1: return latest.ways.size();
      case 2: return latest.serves.size();
      case 3: return editions.size() - 1;
      case 4: return signCount;
      default: return -1;
    }
  }

  private Edition editionOrNull(int number) {
    return number >= 0 && number < editions.size() ? editions.get(number) : null;
  }

  /** Whatever has a name in a text. */
  private static final class Place {
    private final int name;
    private final int kind;
    private final int x;
    private final int y;
    private final int w;
    private final int h;
    private int level;
    /** A bin's rack, the piece that something is at, or a lift's first stop. */
    private int base;
    /** What place() tells as 7: lines that serve or go, or stops. */
    private int lines;
    private boolean hasWayOrLift;
    private int units;

    private Place(int name, int kind, int x, int y, int w, int h) {
      this.name = name;
      this.kind = kind;
      this.x = x;
      this.y = y;
      this.w = w;
      this.h = h;
      base = NONE;
    }

    private boolean contains(Place inner) {
      return inner.x >= x && inner.x + inner.w <= x + w
          && inner.y >= y && inner.y + inner.h <= y + h;
    }

    private boolean sharesArea(Place other) {
      return x < other.x + other.w && other.x < x + w
          && y < other.y + other.h && other.y < y + h;
    }

    private boolean hasPointsOf(Place other) {
      return x == other.x && y == other.y && w == other.w && h == other.h;
    }
  }

  /** Two places that a line binds: a way's pieces, a bin and its piece, a lift and a stop. */
  private static final class Link {
    private final int first;
    private final int second;
    private final boolean bothWays;

    private Link(int first, int second, boolean bothWays) {
      this.first = first;
      this.second = second;
      this.bothWays = bothWays;
    }
  }

  /** The places of one text and what binds them; it may be too large until it is taken. */
  private static final class Edition {
    private final ArrayList<Place> places;
    private final ArrayList<Link> ways;
    private final ArrayList<Link> serves;
    private final ArrayList<Link> stops;

    private Edition() {
      places = new ArrayList<>();
      ways = new ArrayList<>();
      serves = new ArrayList<>();
      stops = new ArrayList<>();
    }

    private boolean isTooLarge() {
      return places.size() > MOST_PLACES || ways.size() + serves.size() > MOST_LINKS;
    }

    private Place placeOrNull(int i) {
      return i >= 0 && i < places.size() ? places.get(i) : null;
    }

    private int find(int name) {
      for (int i = 0; i < places.size(); i++) {
        if (places.get(i).name == name) {
          return i;
        }
      }
      return NONE;
    }

    private int findPiece(int rank) {
      int before = 0;
      for (int i = 0; i < places.size(); i++) {
        if (places.get(i).kind == PIECE) {
          if (before == rank) {
            return i;
          }
          before++;
        }
      }
      return NONE;
    }

    private boolean keepsBin(Place bin, Edition itsEdition) {
      Place kept = placeOrNull(find(bin.name));
      if (kept == null || kept.kind != BIN || kept.level != bin.level || !kept.hasPointsOf(bin)) {
        return false;
      }
      Place keptRack = placeOrNull(kept.base);
      Place rack = itsEdition.placeOrNull(bin.base);
      return keptRack != null && rack != null && keptRack.name == rack.name;
    }

    private void addWay(int first, int second, boolean bothWays) {
      ways.add(new Link(first, second, bothWays));
      places.get(first).lines++;
      places.get(second).lines++;
      places.get(first).hasWayOrLift = true;
      places.get(second).hasWayOrLift = true;
    }

    private void addServe(int bin, int piece) {
      serves.add(new Link(bin, piece, false));
      places.get(bin).lines++;
    }

    private void addStop(int lift, int piece) {
      stops.add(new Link(lift, piece, true));
      places.get(lift).lines++;
      places.get(piece).hasWayOrLift = true;
    }
  }

  /**
   * Reads a text into an edition. Once a sign is refused the rest of its line is read on in
   * vain: only the first refusal counts, and no line that is refused is added.
   */
  private static final class TextReader {
    private static final int END = -1;
    private static final int BLANK = 32;
    private static final int NAME_LENGTH = 4;
    /** More than any number may be, so that long numbers don't wrap around. */
    private static final int HUGE = 1000;

    private final char[] text;
    private final int end;
    private final Edition edition;
    private final int[] stops;
    private int next;
    private int refused;

    private TextReader(char[] text, int end, Edition edition) {
      this.text = text;
      this.end = end;
      this.edition = edition;
      stops = new int[MOST_STOPS];
      refused = NONE;
    }

    /** The place at which the text is refused, or NONE. */
    private int readLines() {
      for (int line = 0; line < MOST_SIGNS && next < end && refused == NONE; line++) {
        int first = peek();
        next++;
        switch (first) {
          case 'R': readRack(); break;
          case 'B': readBin(); break;
          case 'P': readPiece(); break;
          case 'W': readWay(); break;
          case 'D': readAtPiece(DOCK); break;
          case 'S': readAtPiece(STATION); break;
          case 'C': readAtPiece(CHARGER); break;
          case 'E': readLift(); break;
          case 'A': readServe(); break;
          default: refuse(next - 1); break;
        }
      }
      return refused;
    }

    private void readRack() {
      int name = readNewName();
      Place rack = readArea(name, RACK);
      if (endsLine()) {
        edition.places.add(rack);
      }
    }

    private void readBin() {
      int name = readNewName();
      int rack = readUsedName(RACK, NONE);
      int level = readNumber(1, 9);
      Place bin = readArea(name, BIN);
      bin.level = level;
      bin.base = rack;
      if (endsLine()) {
        edition.places.add(bin);
      }
    }

    private Place readArea(int name, int kind) {
      int x = readNumber(0, FLOOR_WIDTH - 1);
      int y = readNumber(0, FLOOR_DEPTH - 1);
      int w = readNumber(1, FLOOR_WIDTH - x);
      int h = readNumber(1, FLOOR_DEPTH - y);
      return new Place(name, kind, x, y, w, h);
    }

    private void readPiece() {
      int name = readNewName();
      int x = readNumber(0, FLOOR_WIDTH - 1);
      int y = readNumber(0, FLOOR_DEPTH - 1);
      if (endsLine()) {
        edition.places.add(new Place(name, PIECE, x, y, 1, 1));
      }
    }

    private void readAtPiece(int kind) {
      int name = readNewName();
      int piece = readUsedName(PIECE, NONE);
      if (endsLine()) {
        addAtPiece(name, kind, piece);
      }
    }

    private void readLift() {
      int name = readNewName();
      stops[0] = readUsedName(PIECE, NONE);
      int count = 1;
      while (count < MOST_STOPS && refused == NONE && peek() == BLANK) {
        stops[count] = readUsedName(PIECE, NONE);
        count++;
      }
      if (endsLine()) {
        int lift = edition.places.size();
        addAtPiece(name, LIFT, stops[0]);
        for (int i = 0; i < count; i++) {
          edition.addStop(lift, stops[i]);
        }
      }
    }

    private void addAtPiece(int name, int kind, int piece) {
      Place base = edition.places.get(piece);
      Place added = new Place(name, kind, base.x, base.y, base.w, base.h);
      added.base = piece;
      edition.places.add(added);
    }

    private void readWay() {
      int first = readUsedName(PIECE, NONE);
      int second = readUsedName(PIECE, first);
      skip(BLANK);
      int kind = peek();
      if (kind == '>' || kind == '=') {
        next++;
      } else {
        refuse(next);
      }
      if (endsLine()) {
        edition.addWay(first, second, kind == '=');
      }
    }

    private void readServe() {
      int bin = readUsedName(BIN, NONE);
      int piece = readUsedName(PIECE, NONE);
      if (endsLine()) {
        edition.addServe(bin, piece);
      }
    }

    private int readNewName() {
      skip(BLANK);
      int start = next;
      int name = readName();
      if (edition.find(name) != NONE) {
        refuse(start);
      }
      return name;
    }

    /** The place that a name is of; it is refused unless it has the kind and is not the barred one. */
    private int readUsedName(int kind, int barred) {
      skip(BLANK);
      int start = next;
      int name = readName();
      int used = edition.find(name);
      if (used == NONE || used == barred || edition.places.get(used).kind != kind) {
        refuse(start);
      }
      return used;
    }

    private int readName() {
      if (!isLetter(peek())) {
        refuse(next);
      }
      int name = 0;
      for (int length = 0; length < NAME_LENGTH && isNameSign(peek()); length++) {
        name = name * 256 + peek();
        next++;
      }
      return name;
    }

    private int readNumber(int least, int most) {
      skip(BLANK);
      int start = next;
      if (!isDigit(peek())) {
        refuse(next);
      }
      int value = 0;
      // A 0 in front ends its number at once: a digit behind it is what is refused.
      for (int i = start; i < end && isDigit(peek()) && (i == start || value > 0); i++) {
        value = Math.min(value * 10 + peek() - '0', HUGE);
        next++;
      }
      if (value < least || value > most) {
        refuse(start);
      }
      return value;
    }

    private boolean endsLine() {
      skip(LINE_END);
      return refused == NONE;
    }

    private void skip(int sign) {
      if (peek() == sign) {
        next++;
      } else {
        refuse(next);
      }
    }

    private void refuse(int place) {
      if (refused == NONE) {
        refused = place;
      }
    }

    private int peek() {
      return next < end ? text[next] : END;
    }

    private static boolean isLetter(int sign) {
      return sign >= 'a' && sign <= 'z';
    }

    private static boolean isDigit(int sign) {
      return sign >= '0' && sign <= '9';
    }

    private static boolean isNameSign(int sign) {
      return isLetter(sign) || isDigit(sign);
    }
  }

  /** Where one can go in the latest edition; a set of places is a long with a bit for each. */
  private static final class Going {
    private final long[] onward;
    private final long[] back;
    private final long[] stopsOfLift;
    private int size;
    private long docks;
    private long reached;
    private long exiting;

    private Going() {
      onward = new long[MOST_PLACES];
      back = new long[MOST_PLACES];
      stopsOfLift = new long[MOST_PLACES];
    }

    /** The edition must not be too large. */
    private void learn(Edition edition) {
      forget();
      size = edition.places.size();
      learnWays(edition);
      learnLifts(edition);
      for (int i = 0; i < size; i++) {
        Place place = edition.places.get(i);
        if (place.kind == DOCK) {
          docks |= 1L << place.base;
        }
      }
      reached = spread(onward, docks);
      exiting = spread(back, docks);
    }

    private void forget() {
      for (int i = 0; i < MOST_PLACES; i++) {
        onward[i] = 0;
        back[i] = 0;
        stopsOfLift[i] = 0;
      }
      docks = 0;
    }

    private void learnWays(Edition edition) {
      for (int i = 0; i < edition.ways.size(); i++) {
        Link way = edition.ways.get(i);
        learnStep(way.first, way.second);
        if (way.bothWays) {
          learnStep(way.second, way.first);
        }
      }
    }

    private void learnStep(int from, int to) {
      onward[from] |= 1L << to;
      back[to] |= 1L << from;
    }

    private void learnLifts(Edition edition) {
      for (int i = 0; i < edition.stops.size(); i++) {
        Link stop = edition.stops.get(i);
        stopsOfLift[stop.first] |= 1L << stop.second;
      }
      for (int i = 0; i < edition.stops.size(); i++) {
        Link stop = edition.stops.get(i);
        onward[stop.second] |= stopsOfLift[stop.first];
        back[stop.second] |= stopsOfLift[stop.first];
      }
    }

    private boolean isReached(int piece) {
      return (reached >>> piece & 1) == 1;
    }

    private boolean isExiting(int piece) {
      return (exiting >>> piece & 1) == 1;
    }

    private int countOnward(int piece) {
      return Long.bitCount(spread(onward, 1L << piece)) - 1;
    }

    private int stepsToDock(int piece) {
      long seen = 1L << piece;
      for (int steps = 0; steps < MOST_PLACES; steps++) {
        if ((seen & docks) != 0) {
          return steps;
        }
        seen = widen(onward, seen);
      }
      return NONE;
    }

    private long spread(long[] steps, long from) {
      long seen = from;
      for (int i = 0; i < MOST_PLACES; i++) {
        long wider = widen(steps, seen);
        if (wider == seen) {
          break;
        }
        seen = wider;
      }
      return seen;
    }

    private long widen(long[] steps, long from) {
      long wider = from;
      for (int i = 0; i < size; i++) {
        if ((from >>> i & 1) == 1) {
          wider |= steps[i];
        }
      }
      return wider;
    }
  }

  private static final class Fault {
    private final int kind;
    private final int place;
    private final int other;

    private Fault(int kind, int place, int other) {
      this.kind = kind;
      this.place = place;
      this.other = other;
    }
  }

  /** The faults of the latest edition, found once as it is taken: no later call changes them. */
  private static final class Inspection {
    private static final int NOT_INSIDE = 1;
    private static final int SHARES_AREA = 2;
    private static final int NOT_SERVED = 3;
    private static final int AT_LONE_PIECE = 4;
    private static final int NO_EXIT = 5;

    private final ArrayList<Fault> faults;

    private Inspection() {
      faults = new ArrayList<>();
    }

    private void inspect(Edition edition, Going going) {
      faults.clear();
      for (int i = 0; i < edition.places.size(); i++) {
        switch (edition.places.get(i).kind) {
          case RACK: inspectArea(edition, i); break;
          case BIN: inspectBin(edition, i, going); break;
          case PIECE: inspectPiece(edition, i, going); break;
          case DOCK:
          case STATION:
          case CHARGER: inspectAtPiece(edition, i); break;
          default: break;
        }
      }
    }

    private void inspectBin(Edition edition, int bin, Going going) {
      Place place = edition.places.get(bin);
      if (!edition.places.get(place.base).contains(place)) {
        faults.add(new Fault(NOT_INSIDE, bin, place.base));
      }
      inspectArea(edition, bin);
      if (!isServed(edition, bin, going)) {
        faults.add(new Fault(NOT_SERVED, bin, NONE));
      }
    }

    private void inspectArea(Edition edition, int checked) {
      Place place = edition.places.get(checked);
      for (int i = 0; i < checked; i++) {
        Place earlier = edition.places.get(i);
        // Racks have no base and no level, so one comparison serves racks and bins.
        boolean together = earlier.kind == place.kind
            && earlier.base == place.base && earlier.level == place.level;
        if (together && earlier.sharesArea(place)) {
          faults.add(new Fault(SHARES_AREA, checked, i));
          return;
        }
      }
    }

    private static boolean isServed(Edition edition, int bin, Going going) {
      for (int i = 0; i < edition.serves.size(); i++) {
        Link serve = edition.serves.get(i);
        if (serve.first == bin && going.isReached(serve.second)) {
          return true;
        }
      }
      return false;
    }

    private void inspectAtPiece(Edition edition, int checked) {
      int piece = edition.places.get(checked).base;
      if (!edition.places.get(piece).hasWayOrLift) {
        faults.add(new Fault(AT_LONE_PIECE, checked, piece));
      }
    }

    private void inspectPiece(Edition edition, int piece, Going going) {
      if (edition.places.get(piece).hasWayOrLift && !going.isExiting(piece)) {
        faults.add(new Fault(NO_EXIT, piece, NONE));
      }
    }
  }

  /** The plan that was laid out last. */
  private static final class Plan {
    private static final int ROW_LENGTH = FLOOR_WIDTH + 1;

    private final char[] signs;
    private int length;

    private Plan() {
      signs = new char[ROW_LENGTH * FLOOR_DEPTH];
    }

    private void layOut(Edition edition) {
      layOutEmptyRows(countRows(edition));
      // What goes before something else at a point is painted over it.
      paintKind(edition, RACK, '#');
      paintKind(edition, BIN, 'b');
      paintKind(edition, PIECE, '+');
      paintStops(edition);
      paintKind(edition, CHARGER, 'C');
      paintKind(edition, STATION, 'S');
      paintKind(edition, DOCK, 'D');
    }

    private static int countRows(Edition edition) {
      int rows = 0;
      for (int i = 0; i < edition.places.size(); i++) {
        Place place = edition.places.get(i);
        rows = Math.max(rows, place.y + place.h);
      }
      return rows;
    }

    private void layOutEmptyRows(int rows) {
      length = rows * ROW_LENGTH;
      for (int i = 0; i < length; i++) {
        signs[i] = i % ROW_LENGTH == FLOOR_WIDTH ? (char) LINE_END : '.';
      }
    }

    private void paintKind(Edition edition, int kind, char sign) {
      for (int i = 0; i < edition.places.size(); i++) {
        Place place = edition.places.get(i);
        if (place.kind == kind) {
          paintPlace(place, sign);
        }
      }
    }

    private void paintStops(Edition edition) {
      for (int i = 0; i < edition.stops.size(); i++) {
        paintPlace(edition.places.get(edition.stops.get(i).second), 'E');
      }
    }

    private void paintPlace(Place place, char sign) {
      for (int y = place.y; y < place.y + place.h; y++) {
        for (int x = place.x; x < place.x + place.w; x++) {
          signs[y * ROW_LENGTH + x] = sign;
        }
      }
    }
  }
}
