/** Promise 8 (piece), and the terms of going that it rests on. */
public final class PieceTest {
  private static final Due DUE = new Due("PieceTest");
  private static final int ONLY_THERE = 0;
  private static final int ONLY_BACK = 1;

  public static void main(String[] args) {
    going();
    answers();
    DUE.test("promise 8", "IndexOutOfBoundsException if there is no such piece", PieceTest::noSuchPiece);
    DUE.test("promise 8", "IndexOutOfBoundsException if there is no such piece | many of them", PieceTest::lastPiece);
    DUE.test("promise 8", "IllegalArgumentException if there is no such what", PieceTest::noSuchWhat);
    DUE.test("promise 8", "IndexOutOfBoundsException .. IllegalArgumentException | both", PieceTest::neither);
    DUE.test("promise 8, terms", "What is asked is told of the latest one", PieceTest::latestEdition);
    DUE.end();
  }

  private static void going() {
    DUE.test("promise 8, terms", "kind > (sign 62) from the first one to the second one alone", PieceTest::oneWay);
    DUE.test("promise 8, terms", "= (61) both ways", PieceTest::bothWays);
    DUE.test("promise 8, terms", "GOING: by ways, as they allow", PieceTest::chains);
    DUE.test("promise 8, terms", "GOING: by ways, as they allow | several from or to one piece", PieceTest::forks);
    DUE.test("promise 8, terms", "GOING: by ways, as they allow, and by lifts | of each kind at one piece", PieceTest::forksOfEachKind);
    DUE.test("promise 8, terms", "and by lifts from any of their stops to any other one", PieceTest::lifts);
    DUE.test("promise 8, terms", "and by lifts | one stop", PieceTest::liftWithOneStop);
    DUE.test("promise 8, terms", "and by lifts | one stop twice", PieceTest::liftWithStopTwice);
    DUE.test("promise 8, terms", "REACHED is a piece to which one can go from some dock's piece", PieceTest::reached);
    DUE.test("promise 8, terms", "REACHED .. (it itself counted)", PieceTest::dockIsReached);
    DUE.test("promise 8, terms", "one EXITS from a piece if one can go from it to some dock's piece", PieceTest::exits);
    DUE.test("promise 8, terms", "one EXITS .. (itself counted)", PieceTest::dockIsExit);
  }

  private static void answers() {
    DUE.test("promise 8", "Of the i-th piece (upward) 0 its place", PieceTest::placesOfPieces);
    DUE.test("promise 8", "1 whether it is reached (1, 0)", PieceTest::reached);
    DUE.test("promise 8", "2 whether one exits from it", PieceTest::exits);
    DUE.test("promise 8", "3 how many pieces one can go to from it (it itself not)", PieceTest::piecesToGoTo);
    DUE.test("promise 8", "4 the fewest ways and lifts from it to a dock's piece", PieceTest::fewestSteps);
    DUE.test("promise 8", "(0 at one", PieceTest::noStepAtDock);
    DUE.test("promise 8", "-1 if there is none)", PieceTest::noDock);
    DUE.test("promise 8", "4 the fewest ways and lifts | as many as there can be", PieceTest::longChain);
  }

  /** One answer for each piece, upward. */
  private static void pieces(String lines, int what, int... due) {
    BuildingText building = Due.of(lines);
    for (int i = 0; i < due.length; i++) {
      DUE.same("piece " + i + " what " + what + " of " + lines, building.piece(i, what), due[i]);
    }
    DUE.refusesIndex("piece " + due.length, () -> building.piece(due.length, what));
  }

  private static void oneWay() {
    pieces("P a 0 0/P b 1 0/W a b >/", 3, 1, 0);
    pieces("P a 0 0/P b 1 0/W b a >/", 3, 0, 1);
    pieces("P a 0 0/P b 1 0/W a b >/W b a >/", 3, 1, 1);
  }

  private static void bothWays() {
    pieces("P a 0 0/P b 1 0/W a b =/", 3, 1, 1);
    pieces("P a 0 0/P b 1 0/W b a =/", 3, 1, 1);
    pieces("P a 0 0/P b 1 0/W a b >/W b a =/", 3, 1, 1);
  }

  private static void chains() {
    pieces("P a 0 0/P b 1 0/P c 2 0/P d 3 0/W a b >/W b c >/W d c >/", 3, 2, 1, 0, 1);
    pieces("P a 0 0/P b 1 0/P c 2 0/P d 3 0/W c d =/W b c >/W a b >/", 3, 3, 2, 1, 1);
    // Neither a point nor a bin that is served binds two pieces.
    pieces("R r 0 0 1 1/B n r 1 0 0 1 1/P a 5 5/P b 5 5/A n a/A n b/", 3, 0, 0);
  }

  private static void forks() {
    String pieces = "P a 0 0/P b 1 0/P c 2 0/P d 3 0/";
    pieces(pieces + "W a b >/W a c >/W a d >/", 3, 3, 0, 0, 0);
    pieces(pieces + "W b a >/W c a >/W d a >/", 3, 0, 1, 1, 1);
    pieces(pieces + "W a b >/W a c >/W a d >/D x a/", 1, 1, 1, 1, 1);
    pieces(pieces + "W b a >/W c a >/W d a >/D x a/", 2, 1, 1, 1, 1);
    pieces(pieces + "W a b =/W a c =/W a d =/", 3, 3, 3, 3, 3);
    pieces(pieces + "E l a b/E m a c/E n a d/", 3, 3, 3, 3, 3);
    pieces(pieces + "W a b >/E l a c/W a d >/", 3, 3, 0, 3, 0);
    pieces(pieces + "W a b >/W a c >/W a d >/D x b/", 4, 1, 0, -1, -1);
  }

  /** The dock's piece a is bound to b, c and d in one of five ways each. */
  private static void forksOfEachKind() {
    for (int kinds = 0; kinds < 125; kinds++) {
      int[] kind = {kinds % 5, kinds / 5 % 5, kinds / 25};
      StringBuilder lines = new StringBuilder("P a 0 0/P b 1 0/P c 2 0/P d 3 0/D x a/");
      int goneTo = 0;
      for (int i = 0; i < 3; i++) {
        lines.append(bound(kind[i], "bcd".substring(i, i + 1), "lmn".substring(i, i + 1)));
        goneTo += kind[i] == ONLY_BACK ? 0 : 1;
      }
      BuildingText building = Due.of(lines.toString());
      DUE.row("a of " + lines, what -> building.piece(0, what), 0, 1, 1, goneTo, 0);
      for (int i = 0; i < 3; i++) {
        int piece = i + 1;
        int there = kind[i] == ONLY_BACK ? 0 : 1;
        int back = kind[i] == ONLY_THERE ? 0 : 1;
        DUE.row("piece " + piece + " of " + lines, what -> building.piece(piece, what),
            piece, there, back, back == 0 ? 0 : 1 + goneTo - there, back == 0 ? -1 : 1);
      }
    }
  }

  private static String bound(int kind, String piece, String lift) {
    switch (kind) {
      case ONLY_THERE: return "W a " + piece + " >/";
      case ONLY_BACK: return "W " + piece + " a >/";
      case 2: return "W a " + piece + " =/";
      case 3: return "W " + piece + " a =/";
      default: return "E " + lift + " a " + piece + "/";
    }
  }

  private static void lifts() {
    pieces("P a 0 0/P b 1 0/E l a b/", 3, 1, 1);
    pieces("P a 0 0/P b 1 0/P c 2 0/E l a b c/", 3, 2, 2, 2);
    pieces("P a 0 0/P b 1 0/P c 2 0/P d 3 0/P e 4 0/E l d c b a/", 3, 3, 3, 3, 3, 0);
    pieces("P a 0 0/P b 1 0/P c 2 0/P d 3 0/P e 4 0/E l a b/E m c d/", 3, 1, 1, 1, 1, 0);
    pieces("P a 0 0/P b 1 0/P c 2 0/P d 3 0/P e 4 0/E l a b/E m b d/W d e >/", 3, 3, 3, 0, 3, 0);
    pieces("P a 0 0/P b 1 0/P c 2 0/E l a b c/D x a/", 4, 0, 1, 1);
    pieces("P a 0 0/P b 1 0/P c 2 0/P d 3 0/E l a b c d/D x d/", 4, 1, 1, 1, 0);
  }

  private static void liftWithOneStop() {
    pieces("P a 0 0/P b 1 0/E l a/", 3, 0, 0);
    pieces("P a 0 0/P b 1 0/E l a/E m b/", 3, 0, 0);
    pieces("P a 0 0/P b 1 0/E l a/D x b/", 4, -1, 0);
  }

  private static void liftWithStopTwice() {
    pieces("P a 0 0/P b 1 0/E l a a/", 3, 0, 0);
    pieces("P a 0 0/P b 1 0/E l a b a b/", 3, 1, 1);
    pieces("P a 0 0/P b 1 0/E l a b a b/D x b/", 4, 1, 0);
  }

  private static void reached() {
    pieces("P a 0 0/P b 1 0/P c 2 0/P d 3 0/W a b >/W b c >/D x a/", 1, 1, 1, 1, 0);
    pieces("P a 0 0/P b 1 0/P c 2 0/P d 3 0/W a b >/W b c >/D x b/", 1, 0, 1, 1, 0);
    pieces("P a 0 0/P b 1 0/P c 2 0/P d 3 0/W b a >/E e b d/D x c/D y d/", 1, 1, 1, 1, 1);
    pieces("P a 0 0/P b 1 0/W a b =/S s a/C c b/", 1, 0, 0);
  }

  private static void dockIsReached() {
    pieces("P a 0 0/P b 1 0/D x b/", 1, 0, 1);
    pieces("P a 0 0/P b 1 0/W a b >/D x a/", 1, 1, 1);
  }

  private static void exits() {
    pieces("P a 0 0/P b 1 0/P c 2 0/P d 3 0/W a b >/W b c >/D x c/", 2, 1, 1, 1, 0);
    pieces("P a 0 0/P b 1 0/P c 2 0/P d 3 0/W a b >/W b c >/D x b/", 2, 1, 1, 0, 0);
    pieces("P a 0 0/P b 1 0/P c 2 0/P d 3 0/W a b >/E e b d/D x c/D y d/", 2, 1, 1, 1, 1);
    pieces("P a 0 0/P b 1 0/W a b =/S s a/C c b/", 2, 0, 0);
  }

  private static void dockIsExit() {
    pieces("P a 0 0/P b 1 0/D x b/", 2, 0, 1);
    pieces("P a 0 0/P b 1 0/W a b >/D x b/", 2, 1, 1);
  }

  private static void placesOfPieces() {
    pieces("R r 0 0 1 1/P a 0 0/B n r 1 0 0 1 1/P c 0 0/D d c/S s a/P e 0 0/E l c a/", 0, 1, 3, 6);
    pieces("P a 0 0/", 0, 0);
  }

  private static void piecesToGoTo() {
    pieces("P a 0 0/", 3, 0);
    pieces("P a 0 0/P b 1 0/P c 2 0/W a b >/W b c >/W c a >/", 3, 2, 2, 2);
    pieces("P a 0 0/P b 1 0/W a b =/W a b =/W b a >/", 3, 1, 1);
    // Docks, lifts and what else is at a piece are not pieces.
    pieces("P a 0 0/D d a/S s a/P b 1 0/C c b/E l a b/", 3, 1, 1);
  }

  private static void fewestSteps() {
    pieces("P a 0 0/P b 1 0/P c 2 0/P d 3 0/W a b >/W b c >/W c d >/W a c >/D x d/", 4, 2, 2, 1, 0);
    pieces("P a 0 0/P b 1 0/P c 2 0/P d 3 0/W a b >/W b c >/W c d >/E l a d/D x d/", 4, 1, 2, 1, 0);
    pieces("P a 0 0/P b 1 0/P c 2 0/W a b =/W b c =/D x a/D y c/", 4, 0, 1, 0);
    // From it to the dock, not the other way round.
    pieces("P a 0 0/P b 1 0/P c 2 0/W a b >/W b c >/W c a >/D x a/", 4, 0, 2, 1);
  }

  private static void noStepAtDock() {
    pieces("P a 0 0/D x a/", 4, 0);
    pieces("P a 0 0/P b 1 0/W a b =/D x a/D y b/D z b/", 4, 0, 0);
  }

  private static void noDock() {
    pieces("P a 0 0/P b 1 0/W a b =/", 4, -1, -1);
    pieces("P a 0 0/P b 1 0/W a b >/D x a/", 4, 0, -1);
    pieces("P a 0 0/P b 1 0/W a b =/S s a/C c b/", 4, -1, -1);
  }

  /** As many pieces in a row as leave calls to ask of the last ones. */
  private static void longChain() {
    StringBuilder lines = new StringBuilder(manyPieces(30) + "D dock a/");
    for (int i = 1; i < 30; i++) {
      lines.append("W ").append(pieceName(i)).append(' ').append(pieceName(i - 1)).append(" >/");
    }
    BuildingText building = Due.of(lines.toString());
    for (int i = 27; i < 30; i++) {
      int piece = i;
      DUE.row("piece " + i, what -> building.piece(piece, what), i, 0, 1, i, i);
    }
  }

  private static String manyPieces(int count) {
    StringBuilder lines = new StringBuilder();
    for (int i = 0; i < count; i++) {
      lines.append("P ").append(pieceName(i)).append(" 0 0/");
    }
    return lines.toString();
  }

  /** a, b, .. z, a0, b0, .. */
  private static String pieceName(int i) {
    String letter = "" + (char) ('a' + i % 26);
    return i < 26 ? letter : letter + (i / 26 - 1);
  }

  private static void noSuchPiece() {
    BuildingText building = Due.of("R r 0 0 1 1/P a 0 0/P b 0 0/D d a/");
    DUE.same("piece 1", building.piece(1, 0), 2);
    for (int i : new int[] {-2, -1, 2, 3, 4, 59, 60}) {
      DUE.refusesIndex("piece " + i, () -> building.piece(i, 0));
    }
    for (int i : Due.FAR) {
      DUE.refusesIndex("piece " + i, () -> building.piece(i, 0));
    }
    BuildingText none = Due.of("R r 0 0 1 1/");
    DUE.refusesIndex("piece 0 of none", () -> none.piece(0, 0));
    DUE.refusesIndex("piece -1 of none", () -> none.piece(-1, 0));
  }

  private static void lastPiece() {
    BuildingText building = Due.of(manyPieces(56) + "W a " + pieceName(55) + " =/");
    DUE.row("the last one", what -> building.piece(55, what), 55, 0, 0, 1, -1);
    DUE.refusesIndex("one more", () -> building.piece(56, 0));
  }

  private static void noSuchWhat() {
    BuildingText building = Due.of("R r 0 0 1 1/P a 0 0/P b 0 0/D d a/");
    for (int what : new int[] {-2, -1, 5, 6}) {
      DUE.refusesArgument("piece 0 what " + what, () -> building.piece(0, what));
      DUE.refusesArgument("piece 1 what " + what, () -> building.piece(1, what));
    }
    for (int what : Due.FAR) {
      DUE.refusesArgument("what " + what, () -> building.piece(1, what));
    }
  }

  private static void neither() {
    BuildingText building = Due.of("R r 0 0 1 1/P a 0 0/P b 0 0/D d a/");
    DUE.refusesIndex("piece 2 what 5", () -> building.piece(2, 5));
    DUE.refusesIndex("piece -1 what -1", () -> building.piece(-1, -1));
  }

  private static void latestEdition() {
    BuildingText building = Due.of("P a 0 0/P b 0 0/P c 0 0/W a b =/D d a/E l a b c/");
    Due.take(building, "P a 0 0/P b 0 0/P c 0 0/D d a/E l b c/");
    DUE.row("a by the lift alone", what -> building.piece(0, what), 0, 1, 1, 0, 0);
    DUE.row("b by the lift alone", what -> building.piece(1, what), 1, 0, 0, 1, -1);
    Due.take(building, "P a 0 0/P b 0 0/W a b >/");
    DUE.row("a without a dock", what -> building.piece(0, what), 0, 0, 0, 1, -1);
    DUE.row("b without a dock", what -> building.piece(1, what), 1, 0, 0, 0, -1);
    DUE.refusesIndex("c is gone", () -> building.piece(2, 0));
    Due.read(building, "P b 0 0/P a 0 0/D d a/W a");
    DUE.row("a after a text that is refused", what -> building.piece(0, what), 0, 0, 0, 1, -1);
  }
}
