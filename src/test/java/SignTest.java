/** Promises 1 (a new object), 2 (sign) and 15 (count). */
public final class SignTest {
  private static final Due DUE = new Due("SignTest");

  public static void main(String[] args) {
    DUE.test("promise 1", "Edition 0", SignTest::editionOfNewObject);
    DUE.test("promise 1", "nothing signed", SignTest::signsOfNewObject);
    DUE.test("promise 1", "Edition 0; nothing signed | an empty object", SignTest::asksNewObject);
    DUE.test("promise 1", "Edition 0; nothing signed | beside another object", SignTest::besideAnotherObject);
    DUE.test("promise 2", "A sign is collected", SignTest::collectsSigns);
    DUE.test("promise 2", "IllegalArgumentException if it is neither 10 nor 32 .. 126", SignTest::signsThatAreNone);
    DUE.test("promise 2", "IllegalArgumentException if it is neither 10 nor 32 .. 126 | a refused call", SignTest::refusedSignIsNotCollected);
    DUE.test("promise 2", "UnsupportedOperationException if 3000 are", SignTest::mostSigns);
    DUE.test("promise 2", "UnsupportedOperationException if 3000 are | both at once", SignTest::wrongSignBehindMostSigns);
    DUE.test("promise 15", "0 places", SignTest::countsPlaces);
    DUE.test("promise 15", "1 lines W", SignTest::countsWays);
    DUE.test("promise 15", "2 lines A", SignTest::countsServes);
    DUE.test("promise 15", "3 the latest edition", SignTest::countsEditions);
    DUE.test("promise 15", "4 signs that are collected", SignTest::countsSigns);
    DUE.test("promise 15", "-1 for another what", SignTest::countsNothingElse);
    DUE.end();
  }

  private static void editionOfNewObject() {
    BuildingText building = new BuildingText();
    DUE.same("the latest edition", building.count(3), 0);
    DUE.same("its places", building.count(0), 0);
    DUE.same("its lines W", building.count(1), 0);
    DUE.same("its lines A", building.count(2), 0);
  }

  private static void signsOfNewObject() {
    BuildingText building = new BuildingText();
    DUE.same("signs", building.count(4), 0);
    DUE.same("read of nothing", building.read(), 0);
  }

  private static void asksNewObject() {
    BuildingText building = new BuildingText();
    DUE.same("check", building.check(), 0);
    DUE.same("print", building.print(), 0);
    DUE.same("named a", building.named('a'), -1);
    DUE.same("named 0", building.named(0), -1);
    DUE.same("differ from edition 0", building.differ(0), 0);
    DUE.refusesIndex("at", () -> building.at(0));
    DUE.refusesIndex("moved", () -> building.moved(0));
    DUE.refusesIndex("fault", () -> building.fault(0, 0));
    DUE.refusesIndex("piece", () -> building.piece(0, 0));
    DUE.refusesArgument("place", () -> building.place(0, 0));
    DUE.refusesArgument("inside", () -> building.inside(0, 0));
    DUE.refusesArgument("fill", () -> building.fill(0, 0, 0));
    DUE.refusesArgument("differ", () -> building.differ(1));
  }

  private static void besideAnotherObject() {
    BuildingText other = Due.of("R r 0 0 2 1/R s 0 0 1 1/P p 3 0/");
    other.print();
    Due.sign(other, "P q");
    String state = Due.state(other);
    BuildingText building = new BuildingText();
    DUE.row("count", building::count, 0, 0, 0, 0, 0);
    DUE.same("check", building.check(), 0);
    DUE.refusesIndex("at", () -> building.at(0));
    Due.take(building, "P z 0 1/");
    building.print();
    DUE.same("state of the other one", Due.state(other), state);
  }

  private static void collectsSigns() {
    BuildingText building = new BuildingText();
    Due.sign(building, "P p 12 3\n");
    DUE.same("signs", building.count(4), 9);
    DUE.same("read", building.read(), 1);
    DUE.same("x", building.place(0, 1), 12);
    BuildingText all = new BuildingText();
    all.sign(10);
    for (int c = 32; c <= 126; c++) {
      all.sign(c);
      DUE.same("signs after " + c, all.count(4), c - 30);
    }
  }

  private static void signsThatAreNone() {
    BuildingText building = new BuildingText();
    for (int c = -2; c < 32; c++) {
      if (c != 10) {
        refusesSign(building, c);
      }
    }
    for (int c = 127; c < 300; c++) {
      refusesSign(building, c);
    }
    // What is left of these in a byte or a char would be a sign.
    for (int c : new int[] {256 + 10, 256 + 32, 256 + 97, -256 + 97, 65536 + 10, 65536 + 97, -65536 + 97}) {
      refusesSign(building, c);
    }
    for (int c : Due.FAR) {
      refusesSign(building, c);
    }
  }

  private static void refusesSign(BuildingText building, int c) {
    DUE.refusesArgument("sign " + c, () -> building.sign(c));
  }

  private static void refusedSignIsNotCollected() {
    BuildingText building = Due.of("P p 1 0/");
    Due.sign(building, "P q ");
    String state = Due.state(building);
    for (int c : new int[] {9, 11, 31, 127, -1}) {
      refusesSign(building, c);
      DUE.same("state after sign " + c, Due.state(building), state);
    }
    DUE.same("what is read then", Due.read(building, "2 0/"), 1);
    DUE.same("q", building.named('q'), 0);
  }

  /** More calls than an object is used for, but no fewer reach this limit. */
  private static BuildingText full() {
    BuildingText building = new BuildingText();
    Due.sign(building, "P p 0 0\n".repeat(375));
    return building;
  }

  private static void mostSigns() {
    BuildingText building = full();
    DUE.same("signs", building.count(4), 3000);
    DUE.refusesMore("one more", () -> building.sign('P'));
    DUE.refusesMore("one more, sign 10", () -> building.sign(10));
    DUE.same("signs still", building.count(4), 3000);
    DUE.same("read: the second p is refused", building.read(), -11);
    DUE.same("signs after read", building.count(4), 0);
    building.sign('P');
    DUE.same("signs anew", building.count(4), 1);
  }

  private static void wrongSignBehindMostSigns() {
    BuildingText building = full();
    refusesSign(building, 9);
    refusesSign(building, 127);
    DUE.same("signs still", building.count(4), 3000);
  }

  private static void countsPlaces() {
    for (int places : new int[] {0, 1, 2, 59, 60}) {
      DUE.same("places", Due.of(Due.places(places)).count(0), places);
    }
    String each = "R r 0 0 2 2/B b r 1 0 0 1 1/P p 5 5/P q 6 6/D d p/S s p/C c p/E e p q/";
    DUE.same("all kinds", Due.of(each + "W p q =/A b p/").count(0), 8);
  }

  private static void countsWays() {
    String start = "R r 0 0 2 2/B b r 1 0 0 1 1/P p 5 5/P q 6 6/E e p q/A b p/";
    for (int ways : new int[] {0, 1, 2, 52}) {
      DUE.same("ways", Due.of(start + "W p q =/".repeat(ways)).count(1), ways);
    }
    DUE.same("both kinds", Due.of(start + "W p q =/W q p >/W p q >/").count(1), 3);
  }

  private static void countsServes() {
    String start = "R r 0 0 2 2/B b r 1 0 0 1 1/P p 5 5/P q 6 6/E e p q/W p q =/";
    for (int serves : new int[] {0, 1, 2, 59}) {
      DUE.same("serves", Due.of(start + "A b p/".repeat(serves)).count(2), serves);
    }
  }

  private static void countsEditions() {
    BuildingText building = new BuildingText();
    for (int edition = 1; edition <= 7; edition++) {
      Due.take(building, "P p 0 0/");
      DUE.same("edition", building.count(3), edition);
      DUE.same("a text that is refused", Due.read(building, "P p 0 0"), -8);
      DUE.same("edition still", building.count(3), edition);
    }
    DUE.refusesMore("an eighth one", building::read);
    DUE.same("edition in the end", building.count(3), 7);
  }

  private static void countsSigns() {
    BuildingText building = new BuildingText();
    for (int signs = 0; signs < 200; signs++) {
      DUE.same("signs", building.count(4), signs);
      building.sign(32 + signs % 95);
    }
    building.read();
    DUE.same("signs after read", building.count(4), 0);
  }

  private static void countsNothingElse() {
    BuildingText building = Due.of("P p 0 0/P q 0 0/W p q =/");
    building.sign('P');
    for (int what : new int[] {-3, -2, -1, 5, 6, 7, 8}) {
      DUE.same("count " + what, building.count(what), -1);
    }
    for (int what : Due.FAR) {
      DUE.same("count " + what, building.count(what), -1);
    }
  }
}
