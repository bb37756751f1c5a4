/** Promises 1 (a new object), 2 (sign) and 15 (count). */
public final class SignTest {
  private static final Due DUE = new Due("SignTest");

  public static void main(String[] args) {
    newObject();
    whichSigns();
    howManySigns();
    counts();
    DUE.end();
  }

  private static void newObject() {
    BuildingText building = new BuildingText();
    DUE.row("count of a new object", building::count, 0, 0, 0, 0, 0, -1);
    DUE.same("check of a new object", building.check(), 0);
    DUE.same("print of a new object", building.print(), 0);
    DUE.same("named of a new object", building.named('a'), -1);
    DUE.same("named 0 of a new object", building.named(0), -1);
    DUE.same("differ from edition 0", building.differ(0), 0);
    DUE.refuses("at", IndexOutOfBoundsException.class, () -> building.at(0));
    DUE.refuses("moved", IndexOutOfBoundsException.class, () -> building.moved(0));
    DUE.refuses("fault", IndexOutOfBoundsException.class, () -> building.fault(0, 0));
    DUE.refuses("piece", IndexOutOfBoundsException.class, () -> building.piece(0, 0));
    DUE.refuses("place", IllegalArgumentException.class, () -> building.place(0, 0));
    DUE.refuses("inside", IllegalArgumentException.class, () -> building.inside(0, 0));
    DUE.refuses("fill", IllegalArgumentException.class, () -> building.fill(0, 0, 0));
    DUE.refuses("differ", IllegalArgumentException.class, () -> building.differ(1));
  }

  private static void whichSigns() {
    BuildingText building = new BuildingText();
    int collected = 0;
    for (int c = -3; c < 300; c++) {
      int sign = c;
      if (c == 10 || c >= 32 && c <= 126) {
        building.sign(c);
        collected++;
      } else {
        DUE.refuses("sign " + c, IllegalArgumentException.class, () -> building.sign(sign));
      }
      DUE.same("collected after " + c, building.count(4), collected);
    }
    for (int c : new int[] {Integer.MIN_VALUE, Integer.MAX_VALUE, 65536 + 97, 256 + 10}) {
      DUE.refuses("sign " + c, IllegalArgumentException.class, () -> building.sign(c));
    }
    DUE.same("collected in the end", building.count(4), 96);
  }

  private static void howManySigns() {
    BuildingText building = new BuildingText();
    for (int i = 0; i < 3000; i++) {
      building.sign('P');
    }
    DUE.same("collected", building.count(4), 3000);
    DUE.refuses("one sign more", UnsupportedOperationException.class, () -> building.sign('P'));
    DUE.refuses("a wrong sign more", IllegalArgumentException.class, () -> building.sign(9));
    DUE.same("collected still", building.count(4), 3000);
    DUE.same("read", building.read(), -2);
    DUE.same("collected after read", building.count(4), 0);
    building.sign('P');
    DUE.same("collected anew", building.count(4), 1);
  }

  private static void counts() {
    BuildingText building = Due.of("R r 0 0 2 2/B b r 1 0 0 1 1/P p 5 5/P q 6 6/"
        + "W p q =/W p q >/W q p >/A b p/A b q/");
    building.sign('W');
    DUE.row("count", building::count, 4, 3, 2, 1, 1, -1);
    DUE.same("count(-1)", building.count(-1), -1);
    DUE.same("count(least)", building.count(Integer.MIN_VALUE), -1);
    DUE.same("count(most)", building.count(Integer.MAX_VALUE), -1);
    DUE.same("a text that is refused", building.read(), -2);
    DUE.row("count after it", building::count, 4, 3, 2, 1, 0, -1);
    DUE.same("an empty text", building.read(), 0);
    DUE.row("count after that", building::count, 0, 0, 0, 2, 0, -1);
  }
}
