/** Promises 13 (print) and 14 (at). */
public final class PlanTest {
  private static final Due DUE = new Due("PlanTest");
  private static final String EMPTY_ROW = ".".repeat(40) + "\n";

  public static void main(String[] args) {
    areas();
    whatGoesFirst();
    wholeFloor();
    whatWasLaidOutLast();
    DUE.end();
  }

  private static String row(int x, String signs) {
    return ".".repeat(x) + signs + ".".repeat(40 - x - signs.length()) + "\n";
  }

  private static void plan(String lines, String due) {
    BuildingText building = Due.of(lines);
    DUE.same("print of " + lines, building.print(), due.length());
    DUE.same("plan of " + lines, Due.laidOut(building), due);
    for (int i : new int[] {-1, due.length(), 820, Integer.MIN_VALUE, Integer.MAX_VALUE}) {
      DUE.refuses("at " + i, IndexOutOfBoundsException.class, () -> building.at(i));
    }
  }

  private static void areas() {
    plan("", "");
    plan("P p 0 0/", row(0, "+"));
    plan("P p 39 1/", EMPTY_ROW + row(39, "+"));
    plan("R r 2 1 3 2/", EMPTY_ROW + row(2, "###") + row(2, "###"));
    plan("R r 2 0 3 3/B b r 1 3 1 1 1/", row(2, "###") + row(2, "#b#") + row(2, "###"));
    plan("R r 2 0 1 1/B b r 1 4 1 2 2/", row(2, "#") + row(4, "bb") + row(4, "bb"));
    plan("R r 38 0 2 1/P p 37 0/", row(37, "+##"));
  }

  private static void whatGoesFirst() {
    String pieces = "R r 0 0 9 1/B b r 1 1 0 8 1/P p 2 0/P q 3 0/P s 4 0/P t 5 0/P u 6 0/";
    plan(pieces, row(0, "#b+++++bb"));
    plan(pieces + "D d p/S s1 q/C c s/E e t/", row(0, "#bDSCE+bb"));
    plan(pieces + "E e p q s t/C c1 p/C c2 q/C c3 s/S s1 p/S s2 q/D d p/", row(0, "#bDSCE+bb"));
    plan(pieces + "D d p/S s1 p/S s2 q/C c1 p/C c2 q/C c3 s/E e p q s t/", row(0, "#bDSCE+bb"));
    plan("P p 0 0/E e p/", row(0, "E"));
    plan("P p 0 0/P q 1 0/P t 2 0/E e p t p/", row(0, "E+E"));
    plan("P p 1 0/P q 1 0/D d p/", row(1, "D"));
    plan("P p 1 0/P q 1 0/S d q/C c p/", row(1, "S"));
    plan("P p 1 0/P q 1 0/E d p/C c q/", row(1, "C"));
    plan("P p 1 0/P q 1 0/E d p/", row(1, "E"));
    plan("P p 1 0/R r 0 0 3 1/B b r 1 0 0 2 1/", row(0, "b+#"));
  }

  private static void wholeFloor() {
    plan("R r 0 0 40 20/", ("#".repeat(40) + "\n").repeat(20));
    plan("R r 39 19 1 1/", EMPTY_ROW.repeat(19) + row(39, "#"));
  }

  private static void whatWasLaidOutLast() {
    BuildingText building = Due.of("P p 0 0/");
    DUE.refuses("at before print", IndexOutOfBoundsException.class, () -> building.at(0));
    DUE.same("print", building.print(), 41);
    Due.read(building, "R r 1 0 1 2\n");
    DUE.same("at(0) still", building.at(0), '+');
    DUE.same("at(40) still", building.at(40), 10);
    DUE.refuses("at(41) still", IndexOutOfBoundsException.class, () -> building.at(41));
    DUE.same("the next plan", Due.laidOut(building), row(1, "#") + row(1, "#"));
    DUE.same("at(0)", building.at(0), '.');
    building.read();
    DUE.same("at(1) still", building.at(1), '#');
    DUE.same("print of an empty edition", building.print(), 0);
    DUE.refuses("at(0) of it", IndexOutOfBoundsException.class, () -> building.at(0));
  }
}
