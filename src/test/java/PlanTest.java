/** Promises 13 (print) and 14 (at). */
public final class PlanTest {
  private static final Due DUE = new Due("PlanTest");
  private static final String EMPTY_ROW = ".".repeat(40) + "\n";
  /** A rack, a bin on it, and pieces on the bin: one more for each kind. */
  private static final String PIECES = "R r 0 0 9 1/B b r 1 1 0 8 1/P p 2 0/P q 3 0/P s 4 0/P t 5 0/P u 6 0/";

  public static void main(String[] args) {
    rows();
    signs();
    DUE.test("promise 14", "Sign i of what was laid out last", PlanTest::signsOfPlan);
    DUE.test("promise 14", "what was laid out last | read later", PlanTest::laidOutBefore);
    DUE.test("promise 14", "what was laid out last | laid out again", PlanTest::laidOutAgain);
    DUE.test("promise 14", "IndexOutOfBoundsException if there is none | before print()", PlanTest::nothingLaidOut);
    DUE.test("promise 14", "IndexOutOfBoundsException if there is none | beyond the plan", PlanTest::beyondPlan);
    DUE.test("promise 14", "IndexOutOfBoundsException if there is none | an empty plan", PlanTest::emptyPlan);
    DUE.end();
  }

  private static void rows() {
    DUE.test("promise 13", "row by row from y = 0: 40 signs, then 10", PlanTest::oneRow);
    DUE.test("promise 13", "rows as far as the last one with something | none", PlanTest::noRows);
    DUE.test("promise 13", "rows as far as the last one with something | pieces", PlanTest::rowsOfPieces);
    DUE.test("promise 13", "rows as far as the last one with something | racks and bins", PlanTest::rowsOfAreas);
    DUE.test("promise 13", "how many signs", PlanTest::howManySigns);
    DUE.test("promise 13, terms", "THE FLOOR has points x 0 .. 39, y 0 .. 19", PlanTest::wholeFloor);
  }

  private static void signs() {
    DUE.test("promise 13", "the first of these: D a dock's piece", PlanTest::docks);
    DUE.test("promise 13", "the first of these: .. S a station's", PlanTest::stations);
    DUE.test("promise 13", "the first of these: .. C a charger's", PlanTest::chargers);
    DUE.test("promise 13", "the first of these: .. E a lift's stop", PlanTest::stops);
    DUE.test("promise 13", "the first of these: .. + another piece", PlanTest::otherPieces);
    DUE.test("promise 13", "the first of these: .. b a bin, # a rack, else a full stop", PlanTest::areas);
    DUE.test("promise 13", "Of what is at a point | several pieces", PlanTest::piecesAtOnePoint);
  }

  private static String row(int x, String signs) {
    return ".".repeat(x) + signs + ".".repeat(40 - x - signs.length()) + "\n";
  }

  /** A plan can have more signs than an object has calls, so each part is asked of a new object. */
  private static void plan(String lines, String due) {
    int part = 410;
    StringBuilder plan = new StringBuilder();
    for (int start = 0; start == 0 || start < due.length(); start += part) {
      BuildingText building = Due.of(lines);
      int length = building.print();
      DUE.same("print of " + lines, length, due.length());
      for (int i = start; i < Math.min(start + part, length); i++) {
        plan.append((char) building.at(i));
      }
      DUE.refusesIndex("at " + due.length(), () -> building.at(due.length()));
    }
    DUE.same("plan of " + lines, plan.toString(), due);
  }

  private static void oneRow() {
    plan("P p 0 0/", row(0, "+"));
    plan("P p 39 0/", row(39, "+"));
    plan("P p 20 0/P q 3 0/", row(0, "...+................+"));
  }

  private static void noRows() {
    DUE.same("a new object", new BuildingText().print(), 0);
    plan("", "");
  }

  private static void rowsOfPieces() {
    plan("P p 39 1/", EMPTY_ROW + row(39, "+"));
    plan("P p 0 2/P q 0 0/", row(0, "+") + EMPTY_ROW + row(0, "+"));
    plan("P p 5 2/D d p/", EMPTY_ROW.repeat(2) + row(5, "D"));
  }

  private static void rowsOfAreas() {
    plan("R r 2 1 3 2/", EMPTY_ROW + row(2, "###") + row(2, "###"));
    plan("R r 2 0 1 1/B b r 1 4 1 2 2/", row(2, "#") + row(4, "bb") + row(4, "bb"));
    plan("R r 2 0 1 3/B b r 1 4 1 2 1/", row(2, "#") + row(2, "#.bb") + row(2, "#"));
  }

  private static void howManySigns() {
    DUE.same("no row", Due.of("").print(), 0);
    for (int y = 0; y <= 19; y++) {
      DUE.same("up to a piece at " + y, Due.of("P p 0 " + y + "/").print(), 41 * (y + 1));
      DUE.same("up to a rack at " + y, Due.of("R r 39 0 1 " + (y + 1) + "/").print(), 41 * (y + 1));
    }
  }

  private static void wholeFloor() {
    plan("R r 0 0 40 20/", ("#".repeat(40) + "\n").repeat(20));
    plan("R r 0 0 1 1/B b r 1 0 0 40 20/", ("b".repeat(40) + "\n").repeat(20));
    plan("R r 39 19 1 1/", EMPTY_ROW.repeat(19) + row(39, "#"));
    plan("P p 39 19/P q 0 0/P r 39 0/P s 0 19/",
        row(0, "+" + ".".repeat(38) + "+") + EMPTY_ROW.repeat(18) + row(0, "+" + ".".repeat(38) + "+"));
  }

  private static void docks() {
    plan(PIECES + "D d p/", row(0, "#bD++++bb"));
    plan(PIECES + "D d p/S s1 p/C c1 p/E e p/", row(0, "#bD++++bb"));
    plan(PIECES + "E e p/C c1 p/S s1 p/D d p/", row(0, "#bD++++bb"));
  }

  private static void stations() {
    plan(PIECES + "S s1 q/", row(0, "#b+S+++bb"));
    plan(PIECES + "S s1 q/C c1 q/E e q/", row(0, "#b+S+++bb"));
    plan(PIECES + "E e q/C c1 q/S s1 q/", row(0, "#b+S+++bb"));
  }

  private static void chargers() {
    plan(PIECES + "C c1 s/", row(0, "#b++C++bb"));
    plan(PIECES + "C c1 s/E e s/", row(0, "#b++C++bb"));
    plan(PIECES + "E e s/C c1 s/", row(0, "#b++C++bb"));
  }

  private static void stops() {
    plan(PIECES + "E e t/", row(0, "#b+++E+bb"));
    plan(PIECES + "E e p q s t/", row(0, "#bEEEE+bb"));
    plan(PIECES + "E e p t p/", row(0, "#bE++E+bb"));
  }

  private static void otherPieces() {
    plan(PIECES, row(0, "#b+++++bb"));
    plan(PIECES + "W p q =/A b p/", row(0, "#b+++++bb"));
    plan("P p 1 0/R r 0 0 3 1/B b r 1 0 0 2 1/", row(0, "b+#"));
  }

  private static void areas() {
    plan("R r 2 0 3 3/B b r 1 3 1 1 1/", row(2, "###") + row(2, "#b#") + row(2, "###"));
    plan("R r 2 0 1 1/B b r 1 1 0 3 1/R s 3 0 2 1/", row(1, "bbb#"));
    plan("R r 38 0 2 1/P p 37 0/", row(37, "+##"));
  }

  private static void piecesAtOnePoint() {
    plan("P p 1 0/P q 1 0/D d p/", row(1, "D"));
    plan("P p 1 0/P q 1 0/D d q/S s p/", row(1, "D"));
    plan("P p 1 0/P q 1 0/D d p/S s q/", row(1, "D"));
    plan("P p 1 0/P q 1 0/S d q/C c p/", row(1, "S"));
    plan("P p 1 0/P q 1 0/E d p/C c q/", row(1, "C"));
    plan("P p 1 0/P q 1 0/E d p/", row(1, "E"));
    plan("P p 1 0/P q 1 0/E d q/", row(1, "E"));
  }

  private static void signsOfPlan() {
    BuildingText building = Due.of("R r 1 0 1 2/");
    DUE.same("print", building.print(), 82);
    DUE.same("at 0", building.at(0), 46);
    DUE.same("at 1", building.at(1), 35);
    DUE.same("at 39", building.at(39), 46);
    DUE.same("at 40", building.at(40), 10);
    DUE.same("at 41", building.at(41), 46);
    DUE.same("at 42", building.at(42), 35);
    DUE.same("at 81", building.at(81), 10);
  }

  private static void laidOutBefore() {
    BuildingText building = Due.of("P p 0 0/");
    DUE.same("print", building.print(), 41);
    Due.take(building, "R r 1 0 1 2/");
    DUE.same("at 0 still", building.at(0), '+');
    DUE.same("at 1 still", building.at(1), '.');
    DUE.same("at 40 still", building.at(40), 10);
    DUE.refusesIndex("at 41 still", () -> building.at(41));
  }

  private static void laidOutAgain() {
    BuildingText building = Due.of("R r 0 0 3 2/");
    DUE.same("print", building.print(), 82);
    Due.take(building, "P p 1 0/");
    DUE.same("print again", building.print(), 41);
    DUE.same("at 0", building.at(0), '.');
    DUE.same("at 1", building.at(1), '+');
    DUE.same("at 2", building.at(2), '.');
    DUE.refusesIndex("at 41", () -> building.at(41));
    Due.take(building, "P p 5 1/");
    DUE.same("print once more", Due.laidOut(building), EMPTY_ROW + row(5, "+"));
  }

  private static void nothingLaidOut() {
    for (BuildingText building : new BuildingText[] {new BuildingText(), Due.of("P p 0 0/")}) {
      for (int i : new int[] {-1, 0, 1, 40, 41, 819, 820}) {
        DUE.refusesIndex("at " + i, () -> building.at(i));
      }
    }
  }

  private static void beyondPlan() {
    BuildingText row = Due.of("P p 0 0/");
    DUE.same("print", row.print(), 41);
    for (int i : new int[] {-2, -1, 41, 42, 81, 82, 819, 820}) {
      DUE.refusesIndex("at " + i, () -> row.at(i));
    }
    for (int i : Due.FAR) {
      DUE.refusesIndex("at " + i, () -> row.at(i));
    }
    BuildingText floor = Due.of("R r 0 0 40 20/");
    DUE.same("print", floor.print(), 820);
    DUE.same("at 819", floor.at(819), 10);
    DUE.refusesIndex("at 820", () -> floor.at(820));
    DUE.refusesIndex("at -1", () -> floor.at(-1));
  }

  private static void emptyPlan() {
    BuildingText building = Due.of("P p 0 0/");
    DUE.same("print", building.print(), 41);
    building.read();
    DUE.same("at 0 still", building.at(0), '+');
    DUE.same("print of an empty edition", building.print(), 0);
    DUE.refusesIndex("at 0", () -> building.at(0));
    DUE.refusesIndex("at -1", () -> building.at(-1));
  }
}
