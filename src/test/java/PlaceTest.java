/** Promises 4 (place), 5 (named) and 9 (inside). */
public final class PlaceTest {
  private static final Due DUE = new Due("PlaceTest");

  public static void main(String[] args) {
    rows();
    names();
    insides();
    latestEdition();
    DUE.end();
  }

  private static BuildingText building() {
    return Due.of("R r 3 4 10 5/B b r 9 4 5 2 3/P p 39 19/P q 0 0/P lone 7 8/"
        + "D d p/S s q/C c p/E e q p q/W p q =/W p q >/A b p/A b p/A b q/E f lone/");
  }

  private static void row(BuildingText building, int place, int... due) {
    DUE.row("place " + place, what -> building.place(place, what), due);
  }

  private static void rows() {
    BuildingText building = building();
    row(building, 0, 0, 3, 4, 10, 5, 0, -1, 0);
    row(building, 1, 1, 4, 5, 2, 3, 9, 0, 3);
    row(building, 2, 2, 39, 19, 1, 1, 0, -1, 2);
    row(building, 3, 2, 0, 0, 1, 1, 0, -1, 2);
    row(building, 4, 2, 7, 8, 1, 1, 0, -1, 0);
    row(building, 5, 3, 39, 19, 1, 1, 0, 2, 0);
    row(building, 6, 4, 0, 0, 1, 1, 0, 3, 0);
    row(building, 7, 5, 39, 19, 1, 1, 0, 2, 0);
    row(building, 8, 6, 0, 0, 1, 1, 0, 3, 3);
    row(building, 9, 6, 7, 8, 1, 1, 0, 4, 1);
    for (int i : new int[] {-1, 10, 60, Integer.MIN_VALUE, Integer.MAX_VALUE}) {
      DUE.refuses("place " + i, IllegalArgumentException.class, () -> building.place(i, 0));
      DUE.refuses("place " + i, IllegalArgumentException.class, () -> building.place(i, 8));
    }
    for (int what : new int[] {-1, 8, Integer.MIN_VALUE, Integer.MAX_VALUE}) {
      DUE.refuses("what " + what, IllegalArgumentException.class, () -> building.place(0, what));
    }
  }

  private static void names() {
    BuildingText building = Due.of("P a 0 0/P a0 0 0/P zzzz 0 0/P b12 0 0/D z9 a/W a a0 =/");
    DUE.same("a", building.named(97), 0);
    DUE.same("a0", building.named(97 * 256 + 48), 1);
    DUE.same("zzzz", building.named(0x7a7a7a7a), 2);
    DUE.same("b12", building.named(Due.nameCode("b12")), 3);
    DUE.same("z9", building.named(Due.nameCode("z9")), 4);
    int[] none = {0, 98, -1, 97 << 8, 97 << 24, 48, 48 * 256 + 97, Due.nameCode("zzz"),
        Due.nameCode("b1"), 97 | 1 << 31, Integer.MIN_VALUE, Integer.MAX_VALUE};
    for (int c : none) {
      DUE.same("named " + c, building.named(c), -1);
    }
  }

  private static void insides() {
    BuildingText building = Due.of("R r 2 2 4 3/R t 0 0 40 20/B whol r 1 2 2 4 3/B left t 1 1 2 4 3/"
        + "B righ r 1 3 2 4 3/B up r 1 2 1 4 3/B down r 1 2 3 4 3/B in r 9 3 3 1 1/B big r 1 1 1 9 9/P p 3 3/");
    int[] within = {1, 0, 0, 0, 0, 1, 0};
    for (int i = 0; i < within.length; i++) {
      DUE.same("inside r " + i, building.inside(2 + i, 0) ? 1 : 0, within[i]);
      DUE.same("inside t " + i, building.inside(2 + i, 1) ? 1 : 0, 1);
    }
    BuildingText far = Due.of("R r 9 1 3 9/B b r 1 9 9 3 1/B c r 1 10 1 2 9/B d r 1 9 1 3 9/");
    for (int i = 1; i <= 3; i++) {
      DUE.holds("inside far " + i, far.inside(i, 0));
    }
    int[][] wrong = {{0, 0}, {2, 2}, {9, 0}, {2, 9}, {-1, 0}, {2, -1}, {10, 0}, {2, 10}, {0, 2},
        {Integer.MAX_VALUE, 0}, {2, Integer.MIN_VALUE}};
    for (int[] pair : wrong) {
      DUE.refuses("inside " + pair[0] + " " + pair[1], IllegalArgumentException.class,
          () -> building.inside(pair[0], pair[1]));
    }
  }

  private static void latestEdition() {
    BuildingText building = building();
    DUE.same("read", Due.read(building, "P x 1 2\nP p 3 4\n"), 2);
    row(building, 1, 2, 3, 4, 1, 1, 0, -1, 0);
    DUE.same("p", building.named('p'), 1);
    DUE.same("r", building.named('r'), -1);
    DUE.refuses("place 2", IllegalArgumentException.class, () -> building.place(2, 0));
    DUE.refuses("inside", IllegalArgumentException.class, () -> building.inside(1, 0));
    DUE.same("refused", Due.read(building, "P y 1 2\nP"), -10);
    DUE.same("x still", building.named('x'), 0);
    DUE.same("y not", building.named('y'), -1);
  }
}
