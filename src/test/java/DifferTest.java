/** Promises 10 (fill), 11 (differ) and 12 (moved). */
public final class DifferTest {
  private static final Due DUE = new Due("DifferTest");
  private static final String START = "R r 0 0 9 9/R s 9 0 9 9/B a r 1 0 0 2 2/B b r 2 0 0 2 2/P p 20 0/B c s 1 9 0 2 2/D d p/S st p/C ch p/E l p/";
  private static final int A = 2;
  private static final int B = 3;
  private static final int C = 5;

  public static void main(String[] args) {
    fills();
    differs();
    moves();
    DUE.end();
  }

  private static void fills() {
    DUE.test("promise 10", "So many units (0 .. 99) lie in bin i of an edition", DifferTest::unitsOfEachNumber);
    DUE.test("promise 10", "So many units .. lie | filled again", DifferTest::filledAgain);
    DUE.test("promise 10", "bin i of an edition | an earlier one", DifferTest::filledLater);
    DUE.test("promise 10", "bin i of an edition | the others' are left", DifferTest::othersAreLeft);
    DUE.test("promise 10", "So many units (0 .. 99) lie in bin i of an edition | a new edition", DifferTest::newEditionIsEmpty);
    DUE.test("promise 10", "IllegalArgumentException if there is no such edition", DifferTest::fillOfNoEdition);
    DUE.test("promise 10", "it has no such bin", DifferTest::fillOfNoBin);
    DUE.test("promise 10", "or units is out of range", DifferTest::fillOutOfRange);
    DUE.test("promise 10", "IllegalArgumentException if there is no such edition, it has no such bin, or units is out of range | a refused call", DifferTest::refusedFillChangesNothing);
  }

  private static void differs() {
    DUE.test("promise 11", "How many units lie in an edition's bins that the latest one has not", DifferTest::nothingIsKept);
    DUE.test("promise 11", "that the latest one has not as they are | has them", DifferTest::allIsKept);
    DUE.test("promise 11", "of the same name", DifferTest::otherNames);
    DUE.test("promise 11", "of the same .. level", DifferTest::otherLevels);
    DUE.test("promise 11", "of the same .. points", DifferTest::otherPoints);
    DUE.test("promise 11", "of the same .. points | each of the four parts", DifferTest::eachPartOfPoints);
    DUE.test("promise 11", "in a rack of the same name", DifferTest::otherRacks);
    DUE.test("promise 11", "in a rack of the same name | elsewhere", DifferTest::racksMoved);
    DUE.test("promise 11", "edition's bins that the latest one has not | the name is another kind's", DifferTest::otherKinds);
    DUE.test("promise 11", "How many units lie in an edition's bins | the latest edition", DifferTest::latestItself);
    DUE.test("promise 11", "How many units lie in an edition's bins | edition 0", DifferTest::editionNought);
    DUE.test("promise 11", "How many units lie in an edition's bins | as many as there can be", DifferTest::manyUnits);
    DUE.test("promise 11", "the latest one | not one between", DifferTest::notOneBetween);
    DUE.test("promise 11", "IllegalArgumentException if there is no such edition", DifferTest::differOfNoEdition);
  }

  private static void moves() {
    DUE.test("promise 12", "The i-th bin (its place in its edition, upward)", DifferTest::movedUpward);
    DUE.test("promise 12", "with units in it", DifferTest::movedWithUnits);
    DUE.test("promise 12", "that differ() found last", DifferTest::foundLast);
    DUE.test("promise 12", "that differ() found last | a refused call", DifferTest::refusedDifferFindsNothing);
    DUE.test("promise 12", "that differ() found last | fill and read later", DifferTest::foundBefore);
    DUE.test("promise 12", "IndexOutOfBoundsException if there is none | before differ()", DifferTest::nothingFoundYet);
    DUE.test("promise 12", "IndexOutOfBoundsException if there is none | beyond what it found", DifferTest::nothingMoreFound);
  }

  /** Building with units 10, 20 and 30 in the bins a, b and c of edition 1. */
  private static BuildingText filled() {
    BuildingText building = Due.of(START);
    building.fill(1, A, 10);
    building.fill(1, B, 20);
    building.fill(1, C, 30);
    return building;
  }

  private static void moved(BuildingText building, int... due) {
    for (int i = 0; i < due.length; i++) {
      DUE.same("moved " + i, building.moved(i), due[i]);
    }
    DUE.refusesIndex("moved " + due.length, () -> building.moved(due.length));
    DUE.refusesIndex("moved -1", () -> building.moved(-1));
  }

  /** What differs from edition 1 if these lines are read as the second one. */
  private static void differs(String name, String lines, int units, int... bins) {
    BuildingText building = filled();
    Due.take(building, lines);
    DUE.same("differ: " + name, building.differ(1), units);
    moved(building, bins);
  }

  private static String changed(String from, String to) {
    if (!START.contains(from)) {
      throw new IllegalStateException("not there: " + from);
    }
    return START.replace(from, to);
  }

  private static void unitsOfEachNumber() {
    BuildingText building = Due.of(START);
    building.read();
    for (int units = 0; units <= 99; units++) {
      building.fill(1, B, units);
      DUE.same("units", building.differ(1), units);
    }
  }

  private static void filledAgain() {
    BuildingText building = filled();
    building.fill(1, A, 99);
    building.fill(1, B, 0);
    building.fill(1, C, 30);
    building.fill(1, C, 1);
    building.read();
    DUE.same("99 and 1", building.differ(1), 100);
    moved(building, A, C);
  }

  private static void filledLater() {
    BuildingText building = Due.of(START);
    building.read();
    building.read();
    building.fill(1, A, 7);
    DUE.same("units of an earlier edition", building.differ(1), 7);
    DUE.same("units of the one between", building.differ(2), 0);
  }

  private static void othersAreLeft() {
    BuildingText building = filled();
    Due.take(building, START);
    building.fill(2, B, 5);
    building.read();
    DUE.same("edition 1", building.differ(1), 60);
    DUE.same("edition 2", building.differ(2), 5);
    moved(building, B);
  }

  private static void newEditionIsEmpty() {
    BuildingText building = filled();
    Due.take(building, START);
    building.read();
    DUE.same("units of the second edition", building.differ(2), 0);
    moved(building);
  }

  private static void fillOfNoEdition() {
    BuildingText building = filled();
    for (int edition : new int[] {-2, -1, 0, 2, 3, 7, 8}) {
      DUE.refusesArgument("fill " + edition, () -> building.fill(edition, A, 1));
    }
    for (int edition : Due.FAR) {
      DUE.refusesArgument("fill " + edition, () -> building.fill(edition, A, 1));
    }
    Due.read(building, "P");
    DUE.refusesArgument("a text that was refused", () -> building.fill(2, A, 1));
  }

  private static void fillOfNoBin() {
    BuildingText building = filled();
    for (int i : new int[] {-2, -1, 0, 1, 4, 6, 7, 8, 9, 10, 11, 60}) {
      DUE.refusesArgument("fill of place " + i, () -> building.fill(1, i, 1));
    }
    for (int i : Due.FAR) {
      DUE.refusesArgument("fill of place " + i, () -> building.fill(1, i, 1));
    }
    // The bin must be the edition's own: edition 2 has bins where edition 1 has none.
    Due.take(building, "R r 0 0 9 9/B b r 2 0 0 2 2/");
    building.fill(2, 1, 1);
    DUE.refusesArgument("edition 1 has no bin 1", () -> building.fill(1, 1, 1));
    DUE.refusesArgument("edition 2 has no bin 2", () -> building.fill(2, A, 1));
    building.fill(1, A, 1);
  }

  private static void fillOutOfRange() {
    BuildingText building = filled();
    building.fill(1, A, 0);
    building.fill(1, A, 99);
    for (int units : new int[] {-2, -1, 100, 101}) {
      DUE.refusesArgument("fill with " + units, () -> building.fill(1, A, units));
    }
    for (int units : Due.FAR) {
      DUE.refusesArgument("fill with " + units, () -> building.fill(1, A, units));
    }
  }

  private static void refusedFillChangesNothing() {
    BuildingText building = filled();
    building.read();
    DUE.refusesArgument("units", () -> building.fill(1, A, 100));
    DUE.refusesArgument("units", () -> building.fill(1, B, -1));
    DUE.refusesArgument("bin", () -> building.fill(1, 4, 50));
    DUE.refusesArgument("edition", () -> building.fill(3, C, 50));
    DUE.same("differ", building.differ(1), 60);
    moved(building, A, B, C);
  }

  private static void nothingIsKept() {
    differs("nothing", "", 60, A, B, C);
    differs("other bins", "R r 0 0 9 9/B x r 1 0 0 2 2/", 60, A, B, C);
    differs("one bin", "R s 9 0 9 9/B c s 1 9 0 2 2/", 30, A, B);
  }

  private static void allIsKept() {
    differs("the same text", START, 0);
    differs("other places and order",
        "P x 0 0/R s 9 0 1 1/R r 1 1 1 1/B c s 1 9 0 2 2/B b r 2 0 0 2 2/B a r 1 0 0 2 2/", 0);
    differs("one more bin", START + "B n s 1 0 0 1 1/", 0);
  }

  private static void otherNames() {
    differs("another name", changed("B a ", "B aa "), 10, A);
    differs("two names changed about", changed("B a r 1", "B b r 1").replace("B b r 2", "B a r 2"), 30, A, B);
  }

  private static void otherLevels() {
    differs("a level up", changed("b r 2", "b r 3"), 20, B);
    differs("a level down", changed("b r 2", "b r 1"), 20, B);
  }

  private static void otherPoints() {
    differs("x", changed("9 0 2 2", "8 0 2 2"), 30, C);
    differs("y", changed("9 0 2 2", "9 1 2 2"), 30, C);
    differs("w", changed("9 0 2 2", "9 0 1 2"), 30, C);
    differs("h", changed("9 0 2 2", "9 0 2 1"), 30, C);
    differs("w and h", changed("9 0 2 2", "9 0 3 3"), 30, C);
    differs("the same area otherwise", changed("9 0 2 2", "9 0 4 1"), 30, C);
  }

  private static void eachPartOfPoints() {
    for (int before = 0; before < 16; before++) {
      for (int after = 0; after < 16; after++) {
        BuildingText building = Due.of(binWithParts(before));
        building.fill(1, 1, 5);
        Due.take(building, binWithParts(after));
        DUE.same(binWithParts(before) + " then " + binWithParts(after), building.differ(1), before == after ? 0 : 5);
      }
    }
  }

  /** A bin whose x, y, w and h are 1 or 2 each, by the bits of a number. */
  private static String binWithParts(int bits) {
    StringBuilder line = new StringBuilder("R r 0 0 4 4/B b r 1");
    for (int part = 0; part < 4; part++) {
      line.append(' ').append(1 + (bits >> part & 1));
    }
    return line.append('/').toString();
  }

  private static void otherRacks() {
    differs("another rack", changed("a r", "a s"), 10, A);
    differs("the rack's name", changed("R s", "R t").replace("c s", "c t"), 30, C);
  }

  private static void racksMoved() {
    differs("racks that change names", changed("R r", "R x").replace("R s", "R r").replace("R x", "R s"), 0);
    differs("a rack elsewhere", changed("R r 0 0 9 9", "R r 30 10 1 1"), 0);
  }

  private static void otherKinds() {
    differs("a piece", changed("B a r 1 0 0 2 2", "P a 0 0"), 10, A);
    differs("a rack", changed("B a r 1 0 0 2 2", "R a 0 0 2 2"), 10, A);
    differs("a dock", changed("B a r 1 0 0 2 2/", "") + "D a p/", 10, A);
  }

  private static void latestItself() {
    BuildingText building = filled();
    DUE.same("differ from the latest one", building.differ(1), 0);
    moved(building);
  }

  private static void editionNought() {
    BuildingText building = filled();
    DUE.same("differ from edition 0", building.differ(0), 0);
    moved(building);
    DUE.same("of a new object", new BuildingText().differ(0), 0);
  }

  private static void manyUnits() {
    StringBuilder lines = new StringBuilder("R r 0 0 1 1/");
    for (int i = 1; i <= 25; i++) {
      lines.append("B ").append(Due.placeName(i).replace('r', 'p')).append(" r 1 1 1 1 1/");
    }
    BuildingText building = Due.of(lines.toString());
    int[] bins = new int[25];
    for (int i = 0; i < 25; i++) {
      bins[i] = i + 1;
      building.fill(1, i + 1, 99);
    }
    building.read();
    DUE.same("differ", building.differ(1), 25 * 99);
    moved(building, bins);
  }

  private static void notOneBetween() {
    BuildingText building = filled();
    building.read();
    Due.take(building, START);
    DUE.same("what is back", building.differ(1), 0);
    Due.take(building, changed("B a ", "B aa "));
    DUE.same("what is away again", building.differ(1), 10);
    DUE.same("of another edition", building.differ(3), 0);
  }

  private static void differOfNoEdition() {
    BuildingText building = filled();
    DUE.same("edition 1", building.differ(1), 0);
    for (int edition : new int[] {-2, -1, 2, 3, 7, 8}) {
      DUE.refusesArgument("differ " + edition, () -> building.differ(edition));
    }
    for (int edition : Due.FAR) {
      DUE.refusesArgument("differ " + edition, () -> building.differ(edition));
    }
    BuildingText full = new BuildingText();
    DUE.refusesArgument("differ 1 of a new object", () -> full.differ(1));
    for (int edition = 1; edition <= 7; edition++) {
      full.read();
    }
    DUE.same("edition 7", full.differ(7), 0);
    DUE.refusesArgument("edition 8", () -> full.differ(8));
  }

  private static void movedUpward() {
    BuildingText building = filled();
    Due.take(building, "P z 0 0/R s 9 0 9 9/B c s 9 9 0 2 2/");
    DUE.same("differ", building.differ(1), 60);
    moved(building, A, B, C);
  }

  private static void movedWithUnits() {
    BuildingText building = filled();
    building.fill(1, A, 0);
    building.fill(1, B, 1);
    building.read();
    DUE.same("differ", building.differ(1), 31);
    moved(building, B, C);
    building.fill(1, B, 0);
    building.fill(1, C, 0);
    DUE.same("differ from empty bins", building.differ(1), 0);
    moved(building);
  }

  private static void foundLast() {
    BuildingText building = filled();
    Due.take(building, changed("a r", "a s"));
    building.fill(2, B, 7);
    building.read();
    DUE.same("differ(1)", building.differ(1), 60);
    moved(building, A, B, C);
    DUE.same("differ(2)", building.differ(2), 7);
    moved(building, B);
    DUE.same("differ(3)", building.differ(3), 0);
    moved(building);
    DUE.same("differ(1) again", building.differ(1), 60);
    moved(building, A, B, C);
    DUE.same("differ(0)", building.differ(0), 0);
    moved(building);
  }

  private static void refusedDifferFindsNothing() {
    BuildingText building = filled();
    building.read();
    DUE.same("differ", building.differ(1), 60);
    DUE.refusesArgument("differ 3", () -> building.differ(3));
    DUE.refusesArgument("differ -1", () -> building.differ(-1));
    moved(building, A, B, C);
  }

  private static void foundBefore() {
    BuildingText building = filled();
    building.read();
    DUE.same("differ", building.differ(1), 60);
    building.fill(1, B, 0);
    moved(building, A, B, C);
    Due.take(building, START);
    moved(building, A, B, C);
    DUE.same("differ then", building.differ(1), 0);
    moved(building);
  }

  private static void nothingFoundYet() {
    BuildingText building = filled();
    moved(building);
    building.read();
    moved(building);
    for (int i : Due.FAR) {
      DUE.refusesIndex("moved " + i, () -> building.moved(i));
    }
  }

  private static void nothingMoreFound() {
    BuildingText building = filled();
    building.read();
    building.differ(1);
    DUE.same("moved 2", building.moved(2), C);
    for (int i : new int[] {-2, -1, 3, 4, 59, 60, 61}) {
      DUE.refusesIndex("moved " + i, () -> building.moved(i));
    }
    for (int i : Due.FAR) {
      DUE.refusesIndex("moved " + i, () -> building.moved(i));
    }
  }
}
