/** Promises 4 (place), 5 (named) and 9 (inside). */
public final class PlaceTest {
  private static final Due DUE = new Due("PlaceTest");
  private static final String BUILDING = "R r 3 4 10 5/B b r 9 4 5 2 3/P p 39 19/P q 0 0/P lone 7 8/"
      + "D d p/S s q/C c p/E e q p q/W p q =/W p q >/A b p/A b p/A b q/E f lone/B bb r 1 39 19 1 1/";
  private static final int RACK = 0;
  private static final int BIN = 1;
  private static final int P = 2;
  private static final int Q = 3;
  private static final int LONE = 4;
  private static final int DOCK = 5;
  private static final int STATION = 6;
  private static final int CHARGER = 7;
  private static final int LIFT = 8;
  private static final int SHORT_LIFT = 9;
  private static final int UNSERVED_BIN = 10;

  public static void main(String[] args) {
    places();
    names();
    DUE.test("promise 9", "Whether a bin lies within a rack", PlaceTest::binsWithinRack);
    DUE.test("promise 9", "(any rack, whole) | by one point beyond it", PlaceTest::binsPartlyWithinRack);
    DUE.test("promise 9", "(any rack, whole) | point by point", PlaceTest::binsPointByPoint);
    DUE.test("promise 9", "(any rack, whole) | any rack", PlaceTest::binsWithinOtherRacks);
    DUE.test("promise 9", "IllegalArgumentException if the one is no bin", PlaceTest::insideOfNoBin);
    DUE.test("promise 9", "or the other no rack", PlaceTest::insideOfNoRack);
    DUE.end();
  }

  private static void places() {
    DUE.test("promise 4", "0 its kind (0 rack, 1 bin, 2 piece, 3 dock, 4 station, 5 charger, 6 lift)", PlaceTest::kinds);
    DUE.test("promise 4", "1 x, 2 y, 3 w, 4 h", PlaceTest::areas);
    DUE.test("promise 4, terms", "THE FLOOR has points x 0 .. 39, y 0 .. 19", PlaceTest::areasAtTheFloorsEdges);
    DUE.test("promise 4", "(of pieces 1, 1", PlaceTest::areasOfPieces);
    DUE.test("promise 4", "of docks, stations, chargers those of their piece", PlaceTest::areasAtPieces);
    DUE.test("promise 4", "of lifts of their first stop", PlaceTest::areasOfLifts);
    DUE.test("promise 4", "5 level (0 but for bins)", PlaceTest::levels);
    DUE.test("promise 4", "6 the rack, the piece or the first stop", PlaceTest::bases);
    DUE.test("promise 4", "(-1 for racks and pieces)", PlaceTest::placesWithoutBase);
    DUE.test("promise 4", "7 how many lines serve it (bins)", PlaceTest::linesThatServe);
    DUE.test("promise 4", "go from or to it (pieces)", PlaceTest::linesThatGo);
    DUE.test("promise 4", "or how many stops it has (lifts", PlaceTest::stops);
    DUE.test("promise 4", "0 else", PlaceTest::noLines);
    DUE.test("promise 4", "IllegalArgumentException if there is no such place", PlaceTest::noSuchPlace);
    DUE.test("promise 4", "IllegalArgumentException if there is no such place | 60 of them", PlaceTest::lastPlace);
    DUE.test("promise 4", "or what", PlaceTest::noSuchWhat);
  }

  private static void names() {
    DUE.test("promise 5", "whose signs are c's bytes, the first one highest", PlaceTest::namesOfEachLength);
    DUE.test("promise 5", "(97 for a, 97 * 256 + 48 for a0 ..)", PlaceTest::namesThatAreTold);
    DUE.test("promise 5", "-1 if there is none", PlaceTest::namesThatAreNone);
    DUE.test("promise 5", "-1 if there is none | a wrap-around", PlaceTest::namesBeyondNames);
    DUE.test("promise 5", "-1 if there is none | an empty building", PlaceTest::namesOfNothing);
  }

  private static void column(int what, int... due) {
    BuildingText building = Due.of(BUILDING);
    for (int i = 0; i < due.length; i++) {
      DUE.same("place " + i + " what " + what, building.place(i, what), due[i]);
    }
  }

  private static void area(String lines, String name, int x, int y, int w, int h) {
    BuildingText building = Due.of(lines);
    int place = building.named(Due.nameCode(name));
    int[] due = {x, y, w, h};
    for (int what = 1; what <= 4; what++) {
      DUE.same(name + " of " + lines + " what " + what, building.place(place, what), due[what - 1]);
    }
  }

  private static void kinds() {
    column(0, 0, 1, 2, 2, 2, 3, 4, 5, 6, 6, 1);
  }

  private static void areas() {
    area(BUILDING, "r", 3, 4, 10, 5);
    area(BUILDING, "b", 4, 5, 2, 3);
  }

  private static void areasAtTheFloorsEdges() {
    String all = "R all 0 0 40 20/B bin all 9 0 0 40 20/";
    area(all, "all", 0, 0, 40, 20);
    area(all, "bin", 0, 0, 40, 20);
    String corner = "R r 39 19 1 1/B bin r 1 39 19 1 1/P p 39 19/D d p/";
    area(corner, "r", 39, 19, 1, 1);
    area(corner, "bin", 39, 19, 1, 1);
    area(corner, "p", 39, 19, 1, 1);
    area(corner, "d", 39, 19, 1, 1);
  }

  private static void areasOfPieces() {
    area(BUILDING, "p", 39, 19, 1, 1);
    area(BUILDING, "q", 0, 0, 1, 1);
    area(BUILDING, "lone", 7, 8, 1, 1);
  }

  private static void areasAtPieces() {
    area(BUILDING, "d", 39, 19, 1, 1);
    area(BUILDING, "s", 0, 0, 1, 1);
    area(BUILDING, "c", 39, 19, 1, 1);
  }

  private static void areasOfLifts() {
    area(BUILDING, "e", 0, 0, 1, 1);
    area(BUILDING, "f", 7, 8, 1, 1);
    area("P p 1 2/P q 3 4/E e p q q q/E f q p p p/", "e", 1, 2, 1, 1);
    area("P p 1 2/P q 3 4/E e p q q q/E f q p p p/", "f", 3, 4, 1, 1);
  }

  private static void levels() {
    column(5, 0, 9, 0, 0, 0, 0, 0, 0, 0, 0, 1);
    for (int level = 1; level <= 9; level++) {
      DUE.same("level", Due.of("R r 0 0 1 1/B b r " + level + " 0 0 1 1/").place(1, 5), level);
    }
  }

  private static void bases() {
    BuildingText building = Due.of(BUILDING);
    DUE.same("a bin's rack", building.place(BIN, 6), RACK);
    DUE.same("another bin's rack", building.place(UNSERVED_BIN, 6), RACK);
    DUE.same("a dock's piece", building.place(DOCK, 6), P);
    DUE.same("a station's piece", building.place(STATION, 6), Q);
    DUE.same("a charger's piece", building.place(CHARGER, 6), P);
    DUE.same("a lift's first stop", building.place(LIFT, 6), Q);
    DUE.same("a short lift's stop", building.place(SHORT_LIFT, 6), LONE);
    DUE.same("a later rack", Due.of("R r 0 0 1 1/R s 1 0 1 1/B b s 1 1 0 1 1/").place(2, 6), 1);
  }

  private static void placesWithoutBase() {
    BuildingText building = Due.of(BUILDING);
    DUE.same("a rack", building.place(RACK, 6), -1);
    DUE.same("a piece", building.place(P, 6), -1);
    DUE.same("a piece that is the first stop", building.place(Q, 6), -1);
    DUE.same("a piece without a way", building.place(LONE, 6), -1);
  }

  private static void linesThatServe() {
    BuildingText building = Due.of(BUILDING);
    DUE.same("twice from one piece and from another", building.place(BIN, 7), 3);
    DUE.same("not at all", building.place(UNSERVED_BIN, 7), 0);
    String most = "R r 0 0 1 1/B b r 1 0 0 1 1/B c r 1 0 0 1 1/P p 0 0/A c p/" + "A b p/".repeat(59);
    DUE.same("59 lines", Due.of(most).place(1, 7), 59);
    DUE.same("one line", Due.of(most).place(2, 7), 1);
  }

  private static void linesThatGo() {
    BuildingText building = Due.of(BUILDING);
    DUE.same("from it", building.place(P, 7), 2);
    DUE.same("to it", building.place(Q, 7), 2);
    DUE.same("a lift alone", building.place(LONE, 7), 0);
    BuildingText star = Due.of("P p 0 0/P q 1 0/P s 2 0/W p q =/W s p >/W p s >/");
    DUE.same("both ways count once", star.place(1, 7), 1);
    DUE.same("from and to", star.place(0, 7), 3);
    DUE.same("from and to, the other one", star.place(2, 7), 2);
    DUE.same("60 lines", Due.of("P p 0 0/P q 1 0/" + "W p q =/".repeat(60)).place(1, 7), 60);
    DUE.same("a line that serves does not go", Due.of("R r 0 0 1 1/B b r 1 0 0 1 1/P p 0 0/A b p/").place(2, 7), 0);
  }

  private static void stops() {
    BuildingText building = Due.of("P p 0 0/P q 1 0/E e p/E f p q/E g p q p/E h q q q q/");
    for (int stops = 1; stops <= 4; stops++) {
      DUE.same("stops", building.place(1 + stops, 7), stops);
    }
  }

  private static void noLines() {
    BuildingText building = Due.of(BUILDING);
    DUE.same("a rack", building.place(RACK, 7), 0);
    DUE.same("a dock", building.place(DOCK, 7), 0);
    DUE.same("a station", building.place(STATION, 7), 0);
    DUE.same("a charger", building.place(CHARGER, 7), 0);
  }

  private static void noSuchPlace() {
    BuildingText building = Due.of(BUILDING);
    for (int what : new int[] {0, 7, 8, -1}) {
      for (int i : new int[] {-2, -1, 11, 12, 59, 60, 61}) {
        DUE.refusesArgument("place " + i, () -> building.place(i, what));
      }
      for (int i : Due.FAR) {
        DUE.refusesArgument("place " + i, () -> building.place(i, what));
      }
    }
    building.read();
    DUE.refusesArgument("place 0 of nothing", () -> building.place(0, 0));
  }

  private static void lastPlace() {
    BuildingText building = Due.of(Due.places(60));
    DUE.same("place 59", building.place(59, 0), 3);
    DUE.refusesArgument("place 60", () -> building.place(60, 0));
  }

  private static void noSuchWhat() {
    BuildingText building = Due.of(BUILDING);
    for (int place = 0; place <= UNSERVED_BIN; place++) {
      int i = place;
      for (int what : new int[] {-2, -1, 8, 9, 10}) {
        DUE.refusesArgument("place " + i + " what " + what, () -> building.place(i, what));
      }
    }
    for (int what : Due.FAR) {
      DUE.refusesArgument("what " + what, () -> building.place(0, what));
    }
  }

  private static void namesOfEachLength() {
    String[] names = {"a", "z", "az", "za", "z9", "b12", "q0q", "zzzz", "a000", "zaaz"};
    StringBuilder lines = new StringBuilder();
    for (String name : names) {
      lines.append("P ").append(name).append(" 0 0/");
    }
    BuildingText building = Due.of(lines.toString());
    for (int i = 0; i < names.length; i++) {
      DUE.same(names[i], building.named(Due.nameCode(names[i])), i);
    }
    DUE.same("zzzz", building.named(0x7a7a7a7a), 7);
    DUE.same("a000", building.named(0x61303030), 8);
  }

  private static void namesThatAreTold() {
    BuildingText building = Due.of("P x 0 0/P a 0 0/P a0 0 0/");
    DUE.same("a", building.named(97), 1);
    DUE.same("a0", building.named(97 * 256 + 48), 2);
  }

  private static void namesThatAreNone() {
    BuildingText building = Due.of("P a 0 0/P a0 0 0/P zzzz 0 0/P b12 0 0/D z9 a/W a a0 =/");
    for (String none : new String[] {"b", "z", "a1", "aa", "a00", "zz", "zzz", "b1", "b123", "0a", "9z", "21b", "A", "P", "W"}) {
      DUE.same("named " + none, building.named(Due.nameCode(none)), -1);
    }
  }

  private static void namesBeyondNames() {
    BuildingText building = Due.of("P a 0 0/P a0 0 0/P zzzz 0 0/");
    int[] none = {0, 1, -1, 48, 97 << 8, 97 << 16, 97 << 24, -97, 97 | 1 << 8, 97 | 1 << 31, 97 | 255 << 24,
        48 * 256 + 97, 0x61300000, 0x613000, 0xfa7a7a7a, 0x7a7a7a7b, 0x7a7a7a79};
    for (int c : none) {
      DUE.same("named " + c, building.named(c), -1);
    }
    for (int c : Due.FAR) {
      DUE.same("named " + c, building.named(c), -1);
    }
  }

  private static void namesOfNothing() {
    BuildingText building = new BuildingText();
    DUE.same("named 0", building.named(0), -1);
    DUE.same("named a", building.named(97), -1);
    DUE.same("named -1", building.named(-1), -1);
  }

  /** Rack r is at 2, 2 and 4 wide, 3 deep; the bin's parts are x y w h. */
  private static boolean inside(String bin) {
    return Due.of("R r 2 2 4 3/B b r 1 " + bin + "/").inside(1, 0);
  }

  private static void binsWithinRack() {
    for (String bin : new String[] {"2 2 4 3", "2 2 1 1", "5 2 1 1", "2 4 1 1", "5 4 1 1", "2 2 4 1", "2 4 4 1",
        "2 2 1 3", "5 2 1 3", "3 3 2 1"}) {
      DUE.holds("inside " + bin, inside(bin));
    }
    for (String bin : new String[] {"0 0 2 2", "6 2 1 1", "2 5 1 1", "1 2 1 1", "2 1 1 1", "39 19 1 1"}) {
      DUE.fails("inside " + bin, inside(bin));
    }
    BuildingText whole = Due.of("R r 0 0 40 20/B b r 1 0 0 40 20/");
    DUE.holds("the whole floor", whole.inside(1, 0));
  }

  private static void binsPartlyWithinRack() {
    for (String bin : new String[] {"1 2 4 3", "3 2 4 3", "2 1 4 3", "2 3 4 3", "1 2 5 3", "2 2 5 3", "2 1 4 4",
        "2 2 4 4", "1 1 6 5", "5 4 2 1", "5 4 1 2", "0 0 40 20"}) {
      DUE.fails("inside " + bin, inside(bin));
    }
  }

  private static void binsPointByPoint() {
    int[][] racks = {{7, 2, 3, 2}, {2, 7, 3, 2}, {7, 2, 2, 3}, {2, 7, 2, 3}};
    for (int[] rack : racks) {
      for (int x = rack[0] - 1; x <= rack[0] + rack[2]; x++) {
        for (int y = rack[1] - 1; y <= rack[1] + rack[3]; y++) {
          for (int side = 1; side <= 4; side++) {
            insideByPoints(rack, new int[] {x, y, side, 1});
            insideByPoints(rack, new int[] {x, y, 1, side});
          }
        }
      }
    }
  }

  private static void insideByPoints(int[] rack, int[] bin) {
    String text = "R r " + parts(rack) + "/B b r 1 " + parts(bin) + "/";
    boolean whole = true;
    for (int x = bin[0]; x < bin[0] + bin[2]; x++) {
      for (int y = bin[1]; y < bin[1] + bin[3]; y++) {
        whole &= x >= rack[0] && x < rack[0] + rack[2] && y >= rack[1] && y < rack[1] + rack[3];
      }
    }
    DUE.same(text, Due.of(text).inside(1, 0) ? 1 : 0, whole ? 1 : 0);
  }

  private static String parts(int[] area) {
    return area[0] + " " + area[1] + " " + area[2] + " " + area[3];
  }

  private static void binsWithinOtherRacks() {
    BuildingText building = Due.of("R r 2 2 4 3/R all 0 0 40 20/R far 20 10 5 5/B b r 1 2 2 4 3/B c far 9 3 3 1 1/");
    DUE.holds("b in its rack", building.inside(3, 0));
    DUE.holds("b in another one", building.inside(3, 1));
    DUE.fails("b in a third one", building.inside(3, 2));
    DUE.holds("c in another one", building.inside(4, 0));
    DUE.holds("c in another one", building.inside(4, 1));
    DUE.fails("c in its rack", building.inside(4, 2));
  }

  private static void insideOfNoBin() {
    BuildingText building = Due.of(BUILDING);
    for (int bin : new int[] {RACK, P, Q, LONE, DOCK, STATION, CHARGER, LIFT, SHORT_LIFT, -1, 11, 60}) {
      DUE.refusesArgument("inside " + bin, () -> building.inside(bin, RACK));
    }
    for (int bin : Due.FAR) {
      DUE.refusesArgument("inside " + bin, () -> building.inside(bin, RACK));
    }
  }

  private static void insideOfNoRack() {
    BuildingText building = Due.of(BUILDING);
    for (int rack : new int[] {BIN, P, Q, LONE, DOCK, STATION, CHARGER, LIFT, SHORT_LIFT, UNSERVED_BIN, -1, 11, 60}) {
      DUE.refusesArgument("inside of " + rack, () -> building.inside(BIN, rack));
    }
    for (int rack : Due.FAR) {
      DUE.refusesArgument("inside of " + rack, () -> building.inside(BIN, rack));
    }
    DUE.refusesArgument("neither", () -> building.inside(RACK, BIN));
  }
}
