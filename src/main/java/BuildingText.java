import java.util.ArrayList;

/** Buildings as texts: each text that is read is an edition of the whole building. */
public final class BuildingText {
  private static final int FLOOR_WIDTH = 40;
  private static final int FLOOR_DEPTH = 20;

  private static final int RACK = 0;
  private static final int BIN = 1;
  private static final int PIECE = 2;
  private static final int DOCK = 3;
  private static final int STATION = 4;
  private static final int CHARGER = 5;
  private static final int LIFT = 6;

  private static final int LINE_END = 10;
  private static final int MOST_SIGNS = 3000;
  private static final int MOST_PLACES = 60;
  private static final int MOST_WAYS_AND_SERVES = 60;
  private static final int MOST_STOPS = 4;
  private static final int MOST_EDITION = 7;
  private static final int MOST_UNITS = 99;
  private static final int NONE = -1;

  private final char[] signs;
  private int signCount;
  private final ArrayList<Edition> editions;
  private Edition latest;
  private Going going;
  private final Inspection inspection;
  private final Plan plan;
  private final ArrayList<Place> found;

  public BuildingText() {
    signs = new char[MOST_SIGNS];
    editions = new ArrayList<>();
    latest = new Edition();
    editions.add(latest);
    going = new Going(latest);
    inspection = new Inspection();
    plan = new Plan();
    found = new ArrayList<>();
  }

  public void sign(int c) throws IllegalArgumentException, UnsupportedOperationException {
    if (c != LINE_END && (c < 32 || c > 126)) {
      throw new IllegalArgumentException("no sign of a text");
    }
    if (signCount >= signs.length) {
      throw new UnsupportedOperationException("too many signs");
    }
    signs[signCount] = (char) c;
    signCount++;
  }

  public int read() throws UnsupportedOperationException {
    Edition edition = new Edition();
    TextReader reader = new TextReader(signs, signCount, edition);
    int refused = reader.readLines();
    // What was read is gone even if the edition is then too much for this object.
    signCount = 0;
    if (refused != NONE) {
      return -1 - refused;
    }
    if (edition.isTooLarge() || editions.size() > MOST_EDITION) {
      throw new UnsupportedOperationException("too large, or too many editions");
    }
    take(edition);
    return edition.places.size();
  }

  private void take(Edition edition) {
    editions.add(edition);
    latest = edition;
    going = new Going(edition);
    going.learn();
    inspection.inspect(edition, going);
  }

  public int place(int i, int what) throws IllegalArgumentException {
    Place place = latest.placeOrNull(i);
    if (place == null) {
      throw new IllegalArgumentException("no such place");
    }
    switch (what) {
      case 0: return place.kind;
      case 1: return place.x;
      case 2: return place.y;
      case 3: return place.w;
      case 4: return place.h;
      case 5: return place.level;
      case 6: return place.baseNumber();
      case 7: return place.lines;
      default: throw new IllegalArgumentException("no such what");
    }
  }

  public int named(int c) {
    Place place = latest.namedOrNull(c);
    return place == null ? NONE : place.number;
  }

  public int check() {
    return inspection.faults.size();
  }

  public int fault(int i, int what) throws IndexOutOfBoundsException, IllegalArgumentException {
    if (i < 0 || i >= inspection.faults.size()) {
      throw new IndexOutOfBoundsException("no such fault");
    }
    Fault fault = inspection.faults.get(i);
    switch (what) {
      case 0: return fault.kind;
      case 1: return fault.place;
      case 2: return fault.other;
      default: throw new IllegalArgumentException("no such what");
    }
  }

  public int piece(int i, int what) throws IndexOutOfBoundsException, IllegalArgumentException {
    Place piece = latest.pieceOrNull(i);
    if (piece == null) {
      throw new IndexOutOfBoundsException("no such piece");
    }
    switch (what) {
      case 0: return piece.number;
      case 1: return going.isReached(piece) ? 1 : 0;
      case 2: return going.isExiting(piece) ? 1 : 0;
      case 3: return going.countOnward(piece);
      case 4: return going.stepsToDock(piece);
      default: throw new IllegalArgumentException("no such what");
    }
  }

  public boolean inside(int bin, int rack) throws IllegalArgumentException {
    Place inner = latest.placeOrNull(bin);
    Place outer = latest.placeOrNull(rack);
    if (inner == null || inner.kind != BIN) {
      throw new IllegalArgumentException("no such bin");
    }
    if (outer == null || outer.kind != RACK) {
      throw new IllegalArgumentException("no such rack");
    }
    return outer.contains(inner);
  }

  public void fill(int edition, int i, int units) throws IllegalArgumentException {
    Edition filled = editionOrNull(edition);
    if (filled == null) {
      throw new IllegalArgumentException("no such edition");
    }
    Place bin = filled.placeOrNull(i);
    if (bin == null || bin.kind != BIN) {
      throw new IllegalArgumentException("no such bin");
    }
    if (units < 0 || units > MOST_UNITS) {
      throw new IllegalArgumentException("units out of range");
    }
    bin.units = units;
  }

  public int differ(int edition) throws IllegalArgumentException {
    Edition older = editionOrNull(edition);
    if (older == null) {
      throw new IllegalArgumentException("no such edition");
    }
    found.clear();
    int units = 0;
    for (int i = 0; i < older.places.size(); i++) {
      Place bin = older.places.get(i);
      if (bin.kind == BIN && bin.units > 0 && !latest.keepsBin(bin)) {
        found.add(bin);
        units += bin.units;
      }
    }
    return units;
  }

  public int moved(int i) throws IndexOutOfBoundsException {
    if (i < 0 || i >= found.size()) {
      throw new IndexOutOfBoundsException("no such bin was found");
    }
    return found.get(i).number;
  }

  public int print() {
    plan.layOut(latest);
    return plan.length;
  }

  public int at(int i) throws IndexOutOfBoundsException {
    int sign = plan.signOrNone(i);
    if (sign == NONE) {
      throw new IndexOutOfBoundsException("no such sign was laid out");
    }
    return sign;
  }

  public int count(int what) {
    switch (what) {
      case 0: return latest.places.size();
      case 1: return latest.wayLines;
      case 2: return latest.serveLines;
      case 3: return editions.size() - 1;
      case 4: return signCount;
      default: return -1;
    }
  }

  private Edition editionOrNull(int number) {
    return number >= 0 && number < editions.size() ? editions.get(number) : null;
  }

  /** Whatever has a name in a text; a set of an edition's places is a long with a bit for each. */
  private static final class Place {
    private final int number;
    private final int name;
    private final int kind;
    private final int x;
    private final int y;
    private final int w;
    private final int h;
    private int level;
    /** A bin's rack, the piece that something is at, or a lift's first stop; null if it has none. */
    private Place base;
    /** What place() tells as 7: lines that serve or go, or stops. */
    private int lines;
    /** The pieces to which one goes from this one, and from which one comes, by one way or lift. */
    private long onward;
    private long back;
    private long servedFrom;
    private boolean hasWayOrLift;
    private boolean isStop;
    private int units;

    private Place(int number, int name, int kind, int x, int y, int w, int h) {
      this.number = number;
      this.name = name;
      this.kind = kind;
      this.x = x;
      this.y = y;
      this.w = w;
      this.h = h;
    }

    /** Places from 64 on share bits with earlier ones: no edition that has them is taken. */
    private long bit() {
      return 1L << number;
    }

    private int baseNumber() {
      return base == null ? NONE : base.number;
    }

    private boolean contains(Place inner) {
      return inner.x >= x && inner.x + inner.w <= x + w
          && inner.y >= y && inner.y + inner.h <= y + h;
    }

    private boolean sharesArea(Place other) {
      return x < other.x + other.w && other.x < x + w
          && y < other.y + other.h && other.y < y + h;
    }

    private boolean hasPointsOf(Place other) {
      return x == other.x && y == other.y && w == other.w && h == other.h;
    }

    private boolean hasRackOf(Place other) {
      return base != null && other.base != null && base.name == other.base.name;
    }
  }

  /** The places of one text and what binds them; it may be too large until it is taken. */
  private static final class Edition {
    private final ArrayList<Place> places;
    private int wayLines;
    private int serveLines;

    private Edition() {
      places = new ArrayList<>();
    }

    private boolean isTooLarge() {
      return places.size() > MOST_PLACES || wayLines + serveLines > MOST_WAYS_AND_SERVES;
    }

    private Place placeOrNull(int i) {
      return i >= 0 && i < places.size() ? places.get(i) : null;
    }

    private Place namedOrNull(int name) {
      for (int i = 0; i < places.size(); i++) {
        Place place = places.get(i);
        if (place.name == name) {
          return place;
        }
      }
      return null;
    }

    private Place pieceOrNull(int rank) {
      int before = 0;
      for (int i = 0; i < places.size(); i++) {
        Place place = places.get(i);
        if (place.kind == PIECE) {
          if (before == rank) {
            return place;
          }
          before++;
        }
      }
      return null;
    }

    private boolean keepsBin(Place bin) {
      Place kept = namedOrNull(bin.name);
      return kept != null && kept.kind == BIN && kept.level == bin.level
          && kept.hasPointsOf(bin) && kept.hasRackOf(bin);
    }

    private void addWay(Place first, Place second, boolean bothWays) {
      wayLines++;
      first.lines++;
      second.lines++;
      first.hasWayOrLift = true;
      second.hasWayOrLift = true;
      first.onward |= second.bit();
      second.back |= first.bit();
      if (bothWays) {
        second.onward |= first.bit();
        first.back |= second.bit();
      }
    }

    private void addServe(Place bin, Place piece) {
      serveLines++;
      bin.lines++;
      bin.servedFrom |= piece.bit();
    }

    private void addLift(Place lift, ArrayList<Place> stops) {
      places.add(lift);
      lift.lines = stops.size();
      long all = 0;
      for (int i = 0; i < stops.size(); i++) {
        all |= stops.get(i).bit();
      }
      for (int i = 0; i < stops.size(); i++) {
        Place stop = stops.get(i);
        stop.isStop = true;
        stop.hasWayOrLift = true;
        stop.onward |= all;
        stop.back |= all;
      }
    }
  }

  /**
   * Reads a text into an edition. Once a sign is refused the rest of its line is read on in
   * vain: only the first refusal counts, and no line that is refused is added.
   */
  private static final class TextReader {
    private static final int END = -1;
    private static final int BLANK = 32;
    private static final int NAME_LENGTH = 4;
    /** More than any number may be, so that long numbers don't wrap around. */
    private static final int HUGE = 1000;

    private final char[] text;
    private final int end;
    private final Edition edition;
    private final ArrayList<Place> stops;
    private int next;
    private int refused;

    private TextReader(char[] text, int end, Edition edition) {
      this.text = text;
      this.end = Math.min(end, text.length);
      this.edition = edition;
      stops = new ArrayList<>();
      refused = NONE;
    }

    /** The place at which the text is refused, or NONE. */
    private int readLines() {
      for (int line = 0; line < MOST_SIGNS && next < end && refused == NONE; line++) {
        int first = peek();
        next++;
        switch (first) {
          case 'R': readRack(); break;
          case 'B': readBin(); break;
          case 'P': readPiece(); break;
          case 'W': readWay(); break;
          case 'D': readAtPiece(DOCK); break;
          case 'S': readAtPiece(STATION); break;
          case 'C': readAtPiece(CHARGER); break;
          case 'E': readLift(); break;
          case 'A': readServe(); break;
          default: refuse(next - 1); break;
        }
      }
      return refused;
    }

    private void readRack() {
      int name = readNewName();
      Place rack = readArea(name, RACK);
      if (endsLine()) {
        edition.places.add(rack);
      }
    }

    private void readBin() {
      int name = readNewName();
      Place rack = readUsedName(RACK, null);
      int level = readNumber(1, 9);
      Place bin = readArea(name, BIN);
      bin.level = level;
      bin.base = rack;
      if (endsLine()) {
        edition.places.add(bin);
      }
    }

    private Place readArea(int name, int kind) {
      int x = readNumber(0, FLOOR_WIDTH - 1);
      int y = readNumber(0, FLOOR_DEPTH - 1);
      int w = readNumber(1, FLOOR_WIDTH - x);
      int h = readNumber(1, FLOOR_DEPTH - y);
      return new Place(edition.places.size(), name, kind, x, y, w, h);
    }

    private void readPiece() {
      int name = readNewName();
      int x = readNumber(0, FLOOR_WIDTH - 1);
      int y = readNumber(0, FLOOR_DEPTH - 1);
      if (endsLine()) {
        edition.places.add(new Place(edition.places.size(), name, PIECE, x, y, 1, 1));
      }
    }

    private void readAtPiece(int kind) {
      int name = readNewName();
      Place piece = readUsedName(PIECE, null);
      if (endsLine() && piece != null) {
        edition.places.add(newAtPiece(name, kind, piece));
      }
    }

    private void readLift() {
      int name = readNewName();
      stops.clear();
      for (int i = 0; i < MOST_STOPS && refused == NONE && (i == 0 || peek() == BLANK); i++) {
        Place stop = readUsedName(PIECE, null);
        if (stop != null) {
          stops.add(stop);
        }
      }
      if (endsLine() && !stops.isEmpty()) {
        edition.addLift(newAtPiece(name, LIFT, stops.get(0)), stops);
      }
    }

    private Place newAtPiece(int name, int kind, Place piece) {
      int number = edition.places.size();
      Place made = new Place(number, name, kind, piece.x, piece.y, piece.w, piece.h);
      made.base = piece;
      return made;
    }

    private void readWay() {
      Place first = readUsedName(PIECE, null);
      Place second = readUsedName(PIECE, first);
      skip(BLANK);
      int kind = peek();
      if (kind == '>' || kind == '=') {
        next++;
      } else {
        refuse(next);
      }
      if (endsLine() && first != null && second != null) {
        edition.addWay(first, second, kind == '=');
      }
    }

    private void readServe() {
      Place bin = readUsedName(BIN, null);
      Place piece = readUsedName(PIECE, null);
      if (endsLine() && bin != null && piece != null) {
        edition.addServe(bin, piece);
      }
    }

    private int readNewName() {
      skip(BLANK);
      int start = next;
      int name = readName();
      if (edition.namedOrNull(name) != null) {
        refuse(start);
      }
      return name;
    }

    /** The place that a name is of; it is refused unless it has the kind and is not the barred one. */
    private Place readUsedName(int kind, Place barred) {
      skip(BLANK);
      int start = next;
      Place used = edition.namedOrNull(readName());
      if (used == null || used == barred || used.kind != kind) {
        refuse(start);
      }
      return used;
    }

    private int readName() {
      if (!isLetter(peek())) {
        refuse(next);
      }
      int name = 0;
      for (int length = 0; length < NAME_LENGTH && isNameSign(peek()); length++) {
        name = name * 256 + peek();
        next++;
      }
      return name;
    }

    private int readNumber(int least, int most) {
      skip(BLANK);
      int start = next;
      if (!isDigit(peek())) {
        refuse(next);
      }
      int value = 0;
      // A 0 in front ends its number at once: a digit behind it is what is refused.
      for (int i = start; i < end && isDigit(peek()) && (i == start || value > 0); i++) {
        value = Math.min(value * 10 + peek() - '0', HUGE);
        next++;
      }
      if (value < least || value > most) {
        refuse(start);
      }
      return value;
    }

    private boolean endsLine() {
      skip(LINE_END);
      return refused == NONE;
    }

    private void skip(int sign) {
      if (peek() == sign) {
        next++;
      } else {
        refuse(next);
      }
    }

    private void refuse(int place) {
      if (refused == NONE) {
        refused = place;
      }
    }

    private int peek() {
      return next < end ? text[next] : END;
    }

    private static boolean isLetter(int sign) {
      return sign >= 'a' && sign <= 'z';
    }

    private static boolean isDigit(int sign) {
      return sign >= '0' && sign <= '9';
    }

    private static boolean isNameSign(int sign) {
      return isLetter(sign) || isDigit(sign);
    }
  }

  /** Where one can go in an edition. */
  private static final class Going {
    private final Edition edition;
    private long docks;
    private long reached;
    private long exiting;

    private Going(Edition edition) {
      this.edition = edition;
    }

    private void learn() {
      for (int i = 0; i < edition.places.size(); i++) {
        Place place = edition.places.get(i);
        if (place.kind == DOCK && place.base != null) {
          docks |= place.base.bit();
        }
      }
      reached = spread(docks, false);
      exiting = spread(docks, true);
    }

    private boolean isReached(Place piece) {
      return (reached & piece.bit()) != 0;
    }

    private boolean isExiting(Place piece) {
      return (exiting & piece.bit()) != 0;
    }

    private boolean isServed(Place bin) {
      return (reached & bin.servedFrom) != 0;
    }

    private int countOnward(Place piece) {
      return Long.bitCount(spread(piece.bit(), false)) - 1;
    }

    private int stepsToDock(Place piece) {
      long seen = piece.bit();
      for (int steps = 0; steps < MOST_PLACES; steps++) {
        if ((seen & docks) != 0) {
          return steps;
        }
        seen = widen(seen, false);
      }
      return NONE;
    }

    private long spread(long from, boolean backward) {
      long seen = from;
      for (int i = 0; i < MOST_PLACES; i++) {
        long wider = widen(seen, backward);
        if (wider == seen) {
          break;
        }
        seen = wider;
      }
      return seen;
    }

    private long widen(long from, boolean backward) {
      long wider = from;
      for (int i = 0; i < edition.places.size(); i++) {
        Place place = edition.places.get(i);
        if ((from & place.bit()) != 0) {
          wider |= backward ? place.back : place.onward;
        }
      }
      return wider;
    }
  }

  private static final class Fault {
    private final int kind;
    private final int place;
    private final int other;

    private Fault(int kind, int place, int other) {
      this.kind = kind;
      this.place = place;
      this.other = other;
    }
  }

  /** The faults of the latest edition, found once as it is taken: no later call changes them. */
  private static final class Inspection {
    private static final int NOT_INSIDE = 1;
    private static final int SHARES_AREA = 2;
    private static final int NOT_SERVED = 3;
    private static final int AT_LONE_PIECE = 4;
    private static final int NO_EXIT = 5;

    private final ArrayList<Fault> faults;

    private Inspection() {
      faults = new ArrayList<>();
    }

    private void inspect(Edition edition, Going going) {
      faults.clear();
      for (int i = 0; i < edition.places.size(); i++) {
        Place place = edition.places.get(i);
        switch (place.kind) {
          case RACK: inspectArea(edition, place); break;
          case BIN: inspectBin(edition, place, going); break;
          case PIECE: inspectPiece(place, going); break;
          case DOCK:
          case STATION:
          case CHARGER: inspectAtPiece(place); break;
          default: break;
        }
      }
    }

    private void inspectBin(Edition edition, Place bin, Going going) {
      if (bin.base != null && !bin.base.contains(bin)) {
        faults.add(new Fault(NOT_INSIDE, bin.number, bin.baseNumber()));
      }
      inspectArea(edition, bin);
      if (!going.isServed(bin)) {
        faults.add(new Fault(NOT_SERVED, bin.number, NONE));
      }
    }

    private void inspectArea(Edition edition, Place place) {
      for (int i = 0; i < place.number && i < edition.places.size(); i++) {
        Place earlier = edition.places.get(i);
        // Racks have no base and no level, so one comparison serves racks and bins.
        boolean together = earlier.kind == place.kind
            && earlier.baseNumber() == place.baseNumber() && earlier.level == place.level;
        if (together && earlier.sharesArea(place)) {
          faults.add(new Fault(SHARES_AREA, place.number, earlier.number));
          return;
        }
      }
    }

    private void inspectAtPiece(Place place) {
      if (place.base != null && !place.base.hasWayOrLift) {
        faults.add(new Fault(AT_LONE_PIECE, place.number, place.baseNumber()));
      }
    }

    private void inspectPiece(Place piece, Going going) {
      if (piece.hasWayOrLift && !going.isExiting(piece)) {
        faults.add(new Fault(NO_EXIT, piece.number, NONE));
      }
    }
  }

  /** The plan that was laid out last. */
  private static final class Plan {
    private static final int ROW_LENGTH = FLOOR_WIDTH + 1;

    private final char[] signs;
    private int length;

    private Plan() {
      signs = new char[ROW_LENGTH * FLOOR_DEPTH];
    }

    private void layOut(Edition edition) {
      layOutEmptyRows(countRows(edition));
      // What goes before something else at a point is painted over it.
      paintKind(edition, RACK, '#');
      paintKind(edition, BIN, 'b');
      paintKind(edition, PIECE, '+');
      paintStops(edition);
      paintKind(edition, CHARGER, 'C');
      paintKind(edition, STATION, 'S');
      paintKind(edition, DOCK, 'D');
    }

    private static int countRows(Edition edition) {
      int rows = 0;
      for (int i = 0; i < edition.places.size(); i++) {
        Place place = edition.places.get(i);
        rows = Math.max(rows, place.y + place.h);
      }
      return rows;
    }

    private void layOutEmptyRows(int rows) {
      length = Math.min(rows * ROW_LENGTH, signs.length);
      for (int i = 0; i < length; i++) {
        signs[i] = i % ROW_LENGTH == FLOOR_WIDTH ? (char) LINE_END : '.';
      }
    }

    private void paintKind(Edition edition, int kind, char sign) {
      for (int i = 0; i < edition.places.size(); i++) {
        Place place = edition.places.get(i);
        if (place.kind == kind) {
          paintPlace(place, sign);
        }
      }
    }

    private void paintStops(Edition edition) {
      for (int i = 0; i < edition.places.size(); i++) {
        Place place = edition.places.get(i);
        if (place.isStop) {
          paintPlace(place, 'E');
        }
      }
    }

    private void paintPlace(Place place, char sign) {
      for (int y = place.y; y < place.y + place.h; y++) {
        for (int x = place.x; x < place.x + place.w; x++) {
          paintPoint(y * ROW_LENGTH + x, sign);
        }
      }
    }

    private void paintPoint(int i, char sign) {
      if (i >= 0 && i < length) {
        signs[i] = sign;
      }
    }

    private int signOrNone(int i) {
      return i >= 0 && i < length ? signs[i] : NONE;
    }
  }
}
