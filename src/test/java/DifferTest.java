/** Promises 10 (fill), 11 (differ) and 12 (moved). */
public final class DifferTest {
  private static final Due DUE = new Due("DifferTest");
  private static final String START = "R r 0 0 9 9/R s 9 0 9 9/B a r 1 0 0 2 2/B b r 2 0 0 2 2/P p 20 0/B c s 1 9 0 2 2/";

  public static void main(String[] args) {
    wrongInputs();
    filling();
    whatCountsAsKept();
    movedBins();
    laterFills();
    DUE.end();
  }

  private static void read(BuildingText building, String lines) {
    int places = Due.read(building, lines.replace('/', '\n'));
    DUE.holds("taken: " + lines, places >= 0);
  }

  /** Building with units 10, 20 and 30 in the bins a, b and c of edition 1. */
  private static BuildingText filled() {
    BuildingText building = Due.of(START);
    building.fill(1, 2, 10);
    building.fill(1, 3, 20);
    building.fill(1, 5, 30);
    return building;
  }

  private static void moved(BuildingText building, int... due) {
    for (int i = 0; i < due.length; i++) {
      DUE.same("moved " + i, building.moved(i), due[i]);
    }
    for (int i : new int[] {due.length, -1, 60, Integer.MIN_VALUE, Integer.MAX_VALUE}) {
      DUE.refuses("moved " + i, IndexOutOfBoundsException.class, () -> building.moved(i));
    }
  }

  private static void wrongInputs() {
    BuildingText building = filled();
    int[][] wrong = {{0, 2, 1}, {2, 2, 1}, {-1, 2, 1}, {1, 0, 1}, {1, 4, 1}, {1, 6, 1}, {1, -1, 1},
        {1, 2, -1}, {1, 2, 100}, {1, 2, Integer.MAX_VALUE}, {1, 2, Integer.MIN_VALUE},
        {Integer.MAX_VALUE, 2, 1}, {Integer.MIN_VALUE, 2, 1}, {1, Integer.MAX_VALUE, 1}};
    for (int[] w : wrong) {
      DUE.refuses("fill " + w[0] + " " + w[1] + " " + w[2], IllegalArgumentException.class,
          () -> building.fill(w[0], w[1], w[2]));
    }
    building.read();
    DUE.same("differ is as it was", building.differ(1), 60);
    for (int edition : new int[] {-1, 3, 8, Integer.MIN_VALUE, Integer.MAX_VALUE}) {
      DUE.refuses("differ " + edition, IllegalArgumentException.class, () -> building.differ(edition));
    }
    moved(building, 2, 3, 5);
  }

  private static void filling() {
    BuildingText building = filled();
    building.fill(1, 2, 99);
    building.fill(1, 3, 0);
    building.read();
    DUE.same("99 and 30", building.differ(1), 129);
    moved(building, 2, 5);
    building.fill(1, 2, 0);
    building.fill(1, 5, 1);
    DUE.same("an older edition is filled", building.differ(1), 1);
    moved(building, 5);
  }

  private static void whatCountsAsKept() {
    keeps("the same text", START, 0);
    keeps("nothing", "", 60, 2, 3, 5);
    keeps("other places and order", "P x 0 0/R s 9 0 1 1/R r 1 1 1 1/B c s 1 9 0 2 2/B b r 2 0 0 2 2/B a r 1 0 0 2 2/", 0);
    keeps("another name", START.replace("B a ", "B aa "), 10, 2);
    keeps("another level", START.replace("b r 2", "b r 3"), 20, 3);
    keeps("another x", START.replace("9 0 2 2", "8 0 2 2"), 30, 5);
    keeps("another y", START.replace("9 0 2 2", "9 1 2 2"), 30, 5);
    keeps("another w", START.replace("9 0 2 2", "9 0 1 2"), 30, 5);
    keeps("another h", START.replace("9 0 2 2", "9 0 2 1"), 30, 5);
    keeps("another rack", START.replace("a r", "a s"), 10, 2);
    keeps("another name of the rack", START.replace("R s", "R t").replace("c s", "c t"), 30, 5);
    keeps("racks that change names", START.replace("R r", "R x").replace("R s", "R r").replace("R x", "R s"), 0);
    keeps("a name of another kind", START.replace("B a r 1 0 0 2 2", "P a 0 0"), 10, 2);
    keeps("another w and h", START.replace("9 0 2 2", "9 0 3 3"), 30, 5);
    keeps("two bins away", "R s 9 0 9 9/B c s 1 9 0 2 2/", 30, 2, 3);
  }

  private static void keeps(String name, String lines, int units, int... bins) {
    BuildingText building = filled();
    read(building, lines);
    DUE.same("differ: " + name, building.differ(1), units);
    moved(building, bins);
    DUE.same("differ from the latest one", building.differ(2), 0);
    moved(building);
  }

  private static void movedBins() {
    BuildingText building = filled();
    moved(building);
    DUE.same("differ of the only edition", building.differ(1), 0);
    moved(building);
    read(building, START.replace("a r", "a s"));
    moved(building);
    DUE.same("differ(1)", building.differ(1), 10);
    moved(building, 2);
    building.fill(2, 3, 7);
    read(building, "");
    moved(building, 2);
    DUE.same("differ(2)", building.differ(2), 7);
    moved(building, 3);
    DUE.refuses("differ(4)", IllegalArgumentException.class, () -> building.differ(4));
    moved(building, 3);
    DUE.same("differ(0)", building.differ(0), 0);
    moved(building);
    DUE.same("differ(1)", building.differ(1), 60);
    moved(building, 2, 3, 5);
    read(building, START);
    moved(building, 2, 3, 5);
    DUE.same("differ(1) of what is back", building.differ(1), 0);
    DUE.same("differ(2) of what is not", building.differ(2), 0);
  }

  private static void laterFills() {
    BuildingText building = filled();
    read(building, "");
    DUE.same("differ", building.differ(1), 60);
    building.fill(1, 3, 0);
    moved(building, 2, 3, 5);
    DUE.same("differ again", building.differ(1), 40);
    moved(building, 2, 5);
    read(building, START);
    read(building, "");
    DUE.same("a new edition's bins are empty", building.differ(3), 0);
  }
}
