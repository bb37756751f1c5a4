/** Promises 6 (check) and 7 (fault), and the terms that tell the kinds of faults and their order. */
public final class FaultTest {
  private static final Due DUE = new Due("FaultTest");
  /** Pieces p and q are reached and one exits from them. */
  private static final String SERVED = "P p 9 9/P q 9 9/W p q =/D d p/";
  private static final String PIECES = "P p 0 0/P q 1 0/P r 2 0/";
  private static final String TWO_RACKS = SERVED + "R r 0 0 9 9/R t 9 0 9 9/B a r 1 0 0 3 3/A a p/";
  private static final String BIN = "R r 0 0 9 9/B b r 1 0 0 1 1/P p 1 0/P q 2 0/P s 3 0/";

  public static void main(String[] args) {
    DUE.test("promise 6", "How many faults there are | none", FaultTest::noFaults);
    DUE.test("promise 6", "How many faults there are | more than places", FaultTest::manyFaults);
    firstKinds();
    laterKinds();
    order();
    DUE.test("promise 7", "Of fault i 0 its kind, 1 its place, 2 the other one", FaultTest::rows);
    DUE.test("promise 7", "IndexOutOfBoundsException if there is no such fault", FaultTest::noSuchFault);
    DUE.test("promise 7", "IllegalArgumentException if there is no such what", FaultTest::noSuchWhat);
    DUE.test("promise 7", "IndexOutOfBoundsException .. IllegalArgumentException | both", FaultTest::neither);
    DUE.test("promises 6 and 7, terms", "What is asked is told of the latest one", FaultTest::latestEdition);
    DUE.end();
  }

  private static void terms(String words, Due.Call test) {
    DUE.test("promises 6 and 7, terms", words, test);
  }

  private static void firstKinds() {
    terms("1 a bin is not inside of its rack | by one point beyond it", FaultTest::binsNotInside);
    terms("1 a bin is not inside of its rack | fits", FaultTest::binsInside);
    terms("1 .. (other: the rack)", FaultTest::rackOfBinNotInside);
    terms("2 a rack and an earlier rack .. share some area | one point", FaultTest::racksShare);
    terms("2 a rack and an earlier rack .. share some area | side by side", FaultTest::racksTouch);
    terms("2 .. or a bin and an earlier bin .. share some area", FaultTest::binsShare);
    terms("2 .. a bin and an earlier bin of the same rack", FaultTest::binsOfOtherRacks);
    terms("2 .. a bin and an earlier bin of the same .. level", FaultTest::binsOfOtherLevels);
    terms("2 a rack and an earlier rack .. or a bin and an earlier bin | no others", FaultTest::othersShare);
    terms("2 .. (other: the first such one)", FaultTest::firstOfSharing);
  }

  private static void laterKinds() {
    terms("3 a bin is not served", FaultTest::binsNotServed);
    terms("3 .. from a piece that is reached", FaultTest::binsServedInVain);
    terms("3 .. from a piece that is reached | a dock's itself counted", FaultTest::binsServedFromDock);
    terms("3 .. from a piece that is reached | one of several", FaultTest::binsServedTwice);
    terms("4 a dock, station or charger at a piece without any way or lift", FaultTest::lonePieces);
    terms("4 .. without any way or lift | one way is enough", FaultTest::piecesWithWay);
    terms("4 .. without any way or lift | one lift is enough", FaultTest::piecesWithLift);
    terms("4 a dock, station or charger at a piece without any way or lift | a lift is none of these", FaultTest::liftsHaveLifts);
    terms("5 a piece has a way or lift and one does not exit from it", FaultTest::noExits);
    terms("5 a piece has a way or lift | none", FaultTest::piecesWithoutWay);
    terms("5 .. one does not exit from it | a dock's piece itself counted", FaultTest::exitsAtDock);
  }

  private static void order() {
    terms("FAULTS, by places in their order", FaultTest::orderOfPlaces);
    terms("of one place in the order of kinds", FaultTest::orderOfKinds);
  }

  /** The faults are kind, place, other; kind, place, other; .. */
  private static void faults(BuildingText building, String name, int... due) {
    DUE.same("check of " + name, building.check(), due.length / 3);
    for (int i = 0; i < Math.min(due.length, building.check() * 3); i++) {
      DUE.same("fault " + i / 3 + " " + i % 3 + " of " + name, building.fault(i / 3, i % 3), due[i]);
    }
  }

  private static void faults(String text, int... due) {
    faults(Due.of(text), text, due);
  }

  private static void noFaults() {
    faults("");
    faults("P p 0 0/");
    faults("R r 0 0 40 20/");
    faults(SERVED + "R r 0 0 9 9/B b r 1 0 0 9 9/A b q/S s q/C c p/E e p q/");
  }

  private static void manyFaults() {
    // 25 bins with three faults each, but for the first one, which has no earlier one.
    StringBuilder lines = new StringBuilder("R r 0 0 1 1/");
    for (int i = 1; i <= 25; i++) {
      lines.append("B ").append(Due.placeName(i).replace('r', 'p')).append(" r 1 1 1 1 1/");
    }
    BuildingText building = Due.of(lines.toString());
    DUE.same("check", building.check(), 74);
    DUE.row("the first one", what -> building.fault(0, what), 1, 1, 0);
    DUE.row("the second one", what -> building.fault(1, what), 3, 1, -1);
    DUE.row("the last but one", what -> building.fault(72, what), 2, 25, 1);
    DUE.row("the last one", what -> building.fault(73, what), 3, 25, -1);
    DUE.refusesIndex("one more", () -> building.fault(74, 0));
  }

  private static void binsNotInside() {
    for (String bin : new String[] {"0 1 3 2", "1 0 3 2", "2 1 3 2", "1 2 3 2", "1 1 4 2", "1 1 3 3", "0 1 4 2",
        "1 0 3 3", "4 1 1 1", "1 3 1 1", "0 0 40 20"}) {
      faults(SERVED + "R r 1 1 3 2/B b r 1 " + bin + "/A b q/", 1, 4, 3);
    }
  }

  private static void binsInside() {
    for (String bin : new String[] {"1 1 3 2", "1 1 1 1", "3 2 1 1", "2 1 1 2"}) {
      faults(SERVED + "R r 1 1 3 2/B b r 1 " + bin + "/A b q/");
    }
  }

  private static void rackOfBinNotInside() {
    faults(SERVED + "R r 1 1 1 1/R t 2 1 1 1/B b t 1 1 1 1 1/A b q/", 1, 5, 4);
    faults(SERVED + "R r 1 1 1 1/R t 2 1 1 1/B b r 1 2 1 1 1/A b q/", 1, 5, 3);
  }

  private static void racksShare() {
    faults("R r 5 0 4 1/R s 8 0 1 9/", 2, 1, 0);
    faults("R r 8 0 1 9/R s 5 0 4 1/", 2, 1, 0);
    faults("R r 0 5 1 4/R s 0 8 9 1/", 2, 1, 0);
    faults("R r 0 8 9 1/R s 0 5 1 4/", 2, 1, 0);
    faults("R r 0 0 2 2/R s 1 1 2 2/", 2, 1, 0);
    faults("R r 1 1 2 2/R s 0 0 2 2/", 2, 1, 0);
    faults("R r 0 1 2 2/R s 1 0 2 2/", 2, 1, 0);
    faults("R r 0 0 9 9/R s 1 1 2 2/", 2, 1, 0);
    faults("R r 1 1 2 2/R s 0 0 9 9/", 2, 1, 0);
    faults("R r 3 0 1 9/R s 0 3 9 1/", 2, 1, 0);
    faults("R r 39 19 1 1/R s 39 19 1 1/", 2, 1, 0);
  }

  private static void racksTouch() {
    faults("R r 0 0 2 2/R s 2 0 2 2/R t 0 2 2 2/R u 2 2 2 2/");
    faults("R u 2 2 2 2/R t 0 2 2 2/R s 2 0 2 2/R r 0 0 2 2/");
    faults("R r 0 0 4 1/R s 4 0 1 9/");
    faults("R r 0 0 1 4/R s 0 4 9 1/");
  }

  private static void binsShare() {
    faults(TWO_RACKS + "B b r 1 2 2 3 3/A b p/", 2, 6, 5);
    faults(TWO_RACKS + "B b r 1 0 0 3 3/A b p/", 2, 6, 5);
    faults(TWO_RACKS + "B b r 1 1 1 1 1/A b p/", 2, 6, 5);
    faults(TWO_RACKS + "B b r 1 3 0 3 3/A b p/");
    faults(TWO_RACKS + "B b r 1 0 3 3 3/A b p/");
  }

  private static void binsOfOtherRacks() {
    faults(TWO_RACKS + "B b t 1 0 0 3 3/A b p/", 1, 6, 4);
    faults(TWO_RACKS + "B b t 1 0 0 3 3/A b p/B c t 1 1 1 9 9/A c p/", 1, 6, 4, 1, 7, 4, 2, 7, 6);
  }

  private static void binsOfOtherLevels() {
    faults(TWO_RACKS + "B b r 2 0 0 3 3/A b p/");
    faults(TWO_RACKS + "B b r 9 0 0 3 3/A b p/B c r 9 2 2 1 1/A c p/", 2, 7, 6);
  }

  private static void othersShare() {
    faults(SERVED + "R r 9 9 2 2/B b r 1 9 9 2 2/A b p/P s 9 9/P t 9 9/E e p q/");
  }

  private static void firstOfSharing() {
    faults("R r 0 0 1 1/R s 5 5 2 2/R t 6 6 2 2/R u 0 0 9 9/", 2, 2, 1, 2, 3, 0);
    faults("R r 0 0 1 1/R s 5 5 2 2/R t 7 7 2 2/R u 6 6 9 9/", 2, 3, 1);
    faults(TWO_RACKS + "B b r 1 4 4 1 1/A b p/B c r 1 2 2 3 3/A c p/", 2, 7, 5);
    faults(TWO_RACKS + "B b r 1 4 4 1 1/A b p/B c r 1 3 3 3 3/A c p/", 2, 7, 6);
  }

  private static void binsNotServed() {
    faults(BIN, 3, 1, -1);
    faults(BIN + "D d p/W p q =/", 3, 1, -1);
    faults(BIN + "B c r 1 1 0 1 1/A c p/D d p/W p q =/", 3, 1, -1);
  }

  private static void binsServedInVain() {
    faults(BIN + "A b p/", 3, 1, -1);
    faults(BIN + "D d p/W q p >/A b q/", 3, 1, -1);
    faults(BIN + "D d p/W p q =/A b s/", 3, 1, -1);
    faults(BIN + "D d p/W p q >/A b q/", 5, 3, -1);
    faults(BIN + "D d p/E e p q/A b q/");
    faults(BIN + "A b s/E e q s/W p q =/D d p/");
  }

  private static void binsServedFromDock() {
    faults(BIN + "D d p/A b p/", 4, 5, 2);
    faults(BIN + "D d p/A b p/W p q =/");
  }

  private static void binsServedTwice() {
    faults(BIN + "D d p/W p q =/A b s/A b q/");
    faults(BIN + "D d p/W p q =/A b q/A b s/");
  }

  private static void lonePieces() {
    faults(PIECES + "D d p/", 4, 3, 0);
    faults(PIECES + "S s q/", 4, 3, 1);
    faults(PIECES + "C c r/", 4, 3, 2);
    faults(PIECES + "D d p/S s q/C c q/", 4, 3, 0, 4, 4, 1, 4, 5, 1);
    // A line that serves is neither a way nor a lift.
    faults("R r 0 0 1 1/B b r 1 0 0 1 1/P p 0 0/D d p/A b p/", 4, 3, 2);
  }

  private static void piecesWithWay() {
    faults(PIECES + "D d p/W p q =/S s q/C c q/");
    faults(PIECES + "D d p/W q p >/S s q/");
    faults(PIECES + "S s q/D d p/W q p >/");
  }

  private static void piecesWithLift() {
    faults(PIECES + "D d p/E e p/");
    faults(PIECES + "D d p/S s q/C c r/E e p q p r/");
  }

  private static void liftsHaveLifts() {
    faults(PIECES + "E e p q/D d q/");
  }

  private static void noExits() {
    faults(PIECES + "W p q =/", 5, 0, -1, 5, 1, -1);
    faults(PIECES + "E e r/", 5, 2, -1);
    faults(PIECES + "W p q >/D d p/", 5, 1, -1);
    faults(PIECES + "W p q >/W p r >/D d q/", 5, 2, -1);
    faults(PIECES + "W p q >/W q r >/W r p >/D d q/");
    faults(PIECES + "W p q >/E e r q/D d r/");
    faults(PIECES + "W p q >/S s q/C c p/", 5, 0, -1, 5, 1, -1);
  }

  private static void piecesWithoutWay() {
    faults(PIECES);
    faults(PIECES + "W p q =/D d p/");
    faults(PIECES + "S s r/W p q =/", 5, 0, -1, 5, 1, -1, 4, 3, 2);
  }

  private static void exitsAtDock() {
    faults(PIECES + "W p q >/D d q/");
    faults(PIECES + "W q p >/D d q/", 5, 0, -1);
    faults(PIECES + "W q p >/D d q/D e p/");
    faults(PIECES + "E e r/D d r/");
  }

  private static void orderOfPlaces() {
    faults("R a 0 0 2 2/B b a 1 1 1 2 2/B c a 1 1 1 2 2/P p 0 0/D d p/R e 0 0 1 1/P q 1 1/P r 2 2/W q r =/S s p/",
        1, 1, 0, 3, 1, -1, 1, 2, 0, 2, 2, 1, 3, 2, -1, 4, 4, 3, 2, 5, 0, 5, 6, -1, 5, 7, -1, 4, 8, 3);
    faults("P q 1 1/P r 2 2/W q r =/P p 0 0/S s p/R a 0 0 2 2/R e 0 0 1 1/B b a 1 1 1 2 2/",
        5, 0, -1, 5, 1, -1, 4, 3, 2, 2, 5, 4, 1, 6, 4, 3, 6, -1);
  }

  private static void orderOfKinds() {
    faults("R a 0 0 2 2/B b a 1 0 0 1 1/B c a 1 0 0 3 3/", 3, 1, -1, 1, 2, 0, 2, 2, 1, 3, 2, -1);
  }

  private static void rows() {
    BuildingText building = Due.of("R a 0 0 2 2/R e 0 0 1 1/P p 0 0/S s p/B b e 1 1 1 1 1/");
    DUE.row("fault 0", what -> building.fault(0, what), 2, 1, 0);
    DUE.row("fault 1", what -> building.fault(1, what), 4, 3, 2);
    DUE.row("fault 2", what -> building.fault(2, what), 1, 4, 1);
    DUE.row("fault 3", what -> building.fault(3, what), 3, 4, -1);
  }

  private static void noSuchFault() {
    BuildingText one = Due.of("R r 0 0 2 2/R s 0 0 2 2/");
    DUE.same("fault 0", one.fault(0, 0), 2);
    for (int i : new int[] {-2, -1, 1, 2, 3, 60}) {
      DUE.refusesIndex("fault " + i, () -> one.fault(i, 0));
    }
    for (int i : Due.FAR) {
      DUE.refusesIndex("fault " + i, () -> one.fault(i, 0));
    }
    BuildingText none = Due.of("R r 0 0 2 2/");
    DUE.refusesIndex("fault 0 of none", () -> none.fault(0, 0));
    DUE.refusesIndex("fault -1 of none", () -> none.fault(-1, 0));
  }

  private static void noSuchWhat() {
    BuildingText building = Due.of("R r 0 0 2 2/R s 0 0 2 2/");
    for (int what : new int[] {-2, -1, 3, 4}) {
      DUE.refusesArgument("what " + what, () -> building.fault(0, what));
    }
    for (int what : Due.FAR) {
      DUE.refusesArgument("what " + what, () -> building.fault(0, what));
    }
  }

  private static void neither() {
    BuildingText building = Due.of("R r 0 0 2 2/R s 0 0 2 2/");
    DUE.refusesIndex("fault 1 what 3", () -> building.fault(1, 3));
    DUE.refusesIndex("fault -1 what -1", () -> building.fault(-1, -1));
  }

  private static void latestEdition() {
    BuildingText building = new BuildingText();
    faults(building, "a new object");
    Due.take(building, "R r 0 0 2 2/R s 0 0 2 2/");
    faults(building, "the first edition", 2, 1, 0);
    Due.read(building, "P");
    faults(building, "the first edition still", 2, 1, 0);
    Due.take(building, "P p 0 0/P q 0 0/W p q >/");
    faults(building, "the second edition", 5, 0, -1, 5, 1, -1);
    building.read();
    faults(building, "an empty one");
    DUE.refusesIndex("fault 0 of an empty one", () -> building.fault(0, 0));
  }
}
