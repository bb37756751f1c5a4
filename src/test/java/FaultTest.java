/** Promises 6 (check) and 7 (fault). */
public final class FaultTest {
  private static final Due DUE = new Due("FaultTest");

  public static void main(String[] args) {
    outsideOfRack();
    sharedArea();
    notServed();
    lonePieces();
    noExits();
    order();
    latestEdition();
    DUE.end();
  }

  /** The faults are kind, place, other; kind, place, other; .. */
  private static void faults(BuildingText building, String name, int... due) {
    DUE.same("check of " + name, building.check(), due.length / 3);
    for (int i = 0; i < due.length; i++) {
      DUE.same("fault " + i / 3 + " " + i % 3 + " of " + name, building.fault(i / 3, i % 3), due[i]);
    }
    for (int i : new int[] {due.length / 3, -1, Integer.MIN_VALUE, Integer.MAX_VALUE}) {
      DUE.refuses("fault " + i, IndexOutOfBoundsException.class, () -> building.fault(i, 0));
      DUE.refuses("fault " + i, IndexOutOfBoundsException.class, () -> building.fault(i, 3));
    }
    for (int what : new int[] {-1, 3, Integer.MIN_VALUE, Integer.MAX_VALUE}) {
      if (due.length > 0) {
        DUE.refuses("what " + what, IllegalArgumentException.class, () -> building.fault(0, what));
      }
    }
  }

  private static void faults(String text, int... due) {
    faults(Due.of(text), text, due);
  }

  private static void outsideOfRack() {
    String served = "P p 9 9/P q 9 9/W p q =/D d p/";
    faults(served + "R r 1 1 3 2/B b r 1 1 1 3 2/A b q/");
    faults(served + "R r 1 1 3 2/B b r 1 0 1 3 2/A b q/", 1, 4, 3);
    faults(served + "R r 1 1 3 2/B b r 1 1 0 3 2/A b q/", 1, 4, 3);
    faults(served + "R r 1 1 3 2/B b r 1 1 1 4 2/A b q/", 1, 4, 3);
    faults(served + "R r 1 1 3 2/B b r 1 1 1 3 3/A b q/", 1, 4, 3);
    faults(served + "R r 1 1 1 1/R t 2 1 1 1/B b t 1 1 1 1 1/A b q/", 1, 5, 4);
  }

  private static void sharedArea() {
    faults("R r 0 0 2 2/R s 2 0 2 2/R t 0 2 2 2/R u 2 2 2 2/");
    faults("R r 2 0 2 2/R s 0 0 2 2/");
    faults("R r 0 2 2 2/R s 0 0 2 2/");
    faults("R r 5 0 4 1/R s 8 0 1 9/", 2, 1, 0);
    faults("R r 8 0 1 9/R s 5 0 4 1/", 2, 1, 0);
    faults("R r 0 5 1 4/R s 0 8 9 1/", 2, 1, 0);
    faults("R r 0 0 4 1/R s 4 0 1 9/");
    faults("R r 0 0 1 4/R s 0 4 9 1/");
    faults("R r 0 0 2 2/R s 1 1 2 2/", 2, 1, 0);
    faults("R r 0 0 9 9/R s 1 1 2 2/", 2, 1, 0);
    faults("R r 1 1 2 2/R s 0 0 9 9/", 2, 1, 0);
    faults("R r 3 0 1 9/R s 0 3 9 1/", 2, 1, 0);
    faults("R r 0 0 1 1/R s 5 5 2 2/R t 6 6 2 2/R u 0 0 9 9/", 2, 2, 1, 2, 3, 0);
    String start = "P p 9 9/P q 9 9/W p q =/D d p/R r 0 0 9 9/R t 9 0 9 9/B a r 1 0 0 3 3/A a p/";
    faults(start + "B b r 1 3 0 3 3/A b p/");
    faults(start + "B b r 1 0 3 3 3/A b p/");
    faults(start + "B b r 2 0 0 3 3/A b p/");
    faults(start + "B b t 1 0 0 3 3/A b p/", 1, 6, 4);
    faults(start + "B b r 1 2 2 3 3/A b p/", 2, 6, 5);
    faults(start + "B b r 1 4 4 1 1/A b p/B c r 1 2 2 3 3/A c p/", 2, 7, 5);
    faults(start + "B b t 1 0 0 3 3/A b p/B c t 1 1 1 9 9/A c p/", 1, 6, 4, 1, 7, 4, 2, 7, 6);
  }

  private static void notServed() {
    String start = "R r 0 0 9 9/B b r 1 0 0 1 1/P p 1 0/P q 2 0/P s 3 0/";
    faults(start, 3, 1, -1);
    faults(start + "A b p/", 3, 1, -1);
    faults(start + "D d p/A b p/", 4, 5, 2);
    faults(start + "D d p/W p q =/", 3, 1, -1);
    faults(start + "D d p/W p q =/A b q/");
    faults(start + "D d p/W q p >/A b q/", 3, 1, -1);
    faults(start + "D d p/W p q >/A b q/", 5, 3, -1);
    faults(start + "D d p/W p q =/A b s/", 3, 1, -1);
    faults(start + "D d p/W p q =/A b s/A b q/");
    faults(start + "D d p/E e p q/A b q/");
    faults(start + "A b s/E e q s/W p q =/D d p/");
    faults(start + "B c r 1 1 0 1 1/A c p/D d p/W p q =/", 3, 1, -1);
  }

  private static void lonePieces() {
    String start = "P p 0 0/P q 1 0/";
    faults(start + "D d p/", 4, 2, 0);
    faults(start + "D d p/S s q/C c q/", 4, 2, 0, 4, 3, 1, 4, 4, 1);
    faults(start + "D d p/E e p/");
    faults(start + "D d p/W p q =/S s q/C c q/");
    faults(start + "D d p/W q p >/S s q/");
    faults(start + "S s p/", 4, 2, 0);
    faults(start + "C s p/", 4, 2, 0);
    faults("R r 0 0 1 1/B b r 1 0 0 1 1/P p 0 0/D d p/A b p/", 4, 3, 2);
  }

  private static void noExits() {
    String start = "P p 0 0/P q 1 0/P r 2 0/";
    faults(start);
    faults(start + "W p q =/", 5, 0, -1, 5, 1, -1);
    faults(start + "E e r/", 5, 2, -1);
    faults(start + "W p q >/D d p/", 5, 1, -1);
    faults(start + "W p q >/D d q/");
    faults(start + "W p q >/W q r >/W r p >/D d q/");
    faults(start + "W p q >/E e r q/D d r/");
    faults(start + "W p q >/W p r >/D d q/", 5, 2, -1);
    faults(start + "S s r/W p q =/", 5, 0, -1, 5, 1, -1, 4, 3, 2);
  }

  private static void order() {
    faults("R a 0 0 2 2/B b a 1 1 1 2 2/B c a 1 1 1 2 2/P p 0 0/D d p/R e 0 0 1 1/P q 1 1/P r 2 2/"
        + "W q r =/S s p/",
        1, 1, 0, 3, 1, -1, 1, 2, 0, 2, 2, 1, 3, 2, -1, 4, 4, 3, 2, 5, 0, 5, 6, -1, 5, 7, -1, 4, 8, 3);
  }

  private static void latestEdition() {
    BuildingText building = Due.of("R r 0 0 2 2/R s 0 0 2 2/");
    faults(building, "the first edition", 2, 1, 0);
    Due.read(building, "P");
    faults(building, "the first edition still", 2, 1, 0);
    Due.read(building, "P p 0 0\nP q 0 0\nW p q >\n");
    faults(building, "the second edition", 5, 0, -1, 5, 1, -1);
    building.read();
    faults(building, "an empty one");
  }
}
