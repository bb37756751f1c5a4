/** Promise 8 (piece). */
public final class PieceTest {
  private static final Due DUE = new Due("PieceTest");

  public static void main(String[] args) {
    lonePieces();
    ways();
    lifts();
    longChain();
    wrongInputs();
    latestEdition();
    DUE.end();
  }

  private static void piece(BuildingText building, int i, int... due) {
    DUE.row("piece " + i, what -> building.piece(i, what), due);
  }

  private static void lonePieces() {
    BuildingText building = Due.of("R r 0 0 1 1/P a 0 0/B b r 1 0 0 1 1/P c 0 0/D d c/S s a/P e 0 0/");
    piece(building, 0, 1, 0, 0, 0, -1);
    piece(building, 1, 3, 1, 1, 0, 0);
    piece(building, 2, 6, 0, 0, 0, -1);
  }

  private static void ways() {
    BuildingText building = Due.of("P a 0 0/P b 1 0/P c 2 0/P d 3 0/P e 4 0/P f 5 0/"
        + "W a b >/W b c >/W c a >/W c d >/W e c =/W e f >/D x b/");
    piece(building, 0, 0, 1, 1, 5, 1);
    piece(building, 1, 1, 1, 1, 5, 0);
    piece(building, 2, 2, 1, 1, 5, 2);
    piece(building, 3, 3, 1, 0, 0, -1);
    piece(building, 4, 4, 1, 1, 5, 3);
    piece(building, 5, 5, 1, 0, 0, -1);
    BuildingText inward = Due.of("P a 0 0/P b 1 0/P c 2 0/W a b >/W b c >/D x c/D y b/");
    piece(inward, 0, 0, 0, 1, 2, 1);
    piece(inward, 1, 1, 1, 1, 1, 0);
    piece(inward, 2, 2, 1, 1, 0, 0);
  }

  private static void lifts() {
    BuildingText building = Due.of("P a 0 0/P b 1 0/P c 2 0/P d 3 0/P e 4 0/P f 5 0/"
        + "E l a b c/E m c d/E n e/D x a/W f d >/");
    piece(building, 0, 0, 1, 1, 3, 0);
    piece(building, 1, 1, 1, 1, 3, 1);
    piece(building, 2, 2, 1, 1, 3, 1);
    piece(building, 3, 3, 1, 1, 3, 2);
    piece(building, 4, 4, 0, 0, 0, -1);
    piece(building, 5, 5, 0, 1, 4, 3);
    BuildingText again = Due.of("P a 0 0/P b 1 0/E l a b a b/E m a a/D x b/");
    piece(again, 0, 0, 1, 1, 1, 1);
    piece(again, 1, 1, 1, 1, 1, 0);
  }

  private static String name(int i) {
    return "" + (char) ('a' + i / 10) + i % 10;
  }

  private static void longChain() {
    StringBuilder text = new StringBuilder();
    for (int i = 0; i < 59; i++) {
      text.append("P ").append(name(i)).append(" 0 0/");
    }
    text.append("D dock a0/");
    for (int i = 1; i < 59; i++) {
      text.append("W ").append(name(i)).append(' ').append(name(i - 1)).append(" >/");
    }
    BuildingText building = Due.of(text.toString());
    for (int i = 0; i < 59; i++) {
      piece(building, i, i, i == 0 ? 1 : 0, 1, i, i);
    }
  }

  private static void wrongInputs() {
    BuildingText building = Due.of("R r 0 0 1 1/P a 0 0/P b 0 0/D d a/");
    for (int i : new int[] {-1, 2, 3, 4, 60, Integer.MIN_VALUE, Integer.MAX_VALUE}) {
      DUE.refuses("piece " + i, IndexOutOfBoundsException.class, () -> building.piece(i, 0));
      DUE.refuses("piece " + i, IndexOutOfBoundsException.class, () -> building.piece(i, 5));
    }
    for (int what : new int[] {-1, 5, Integer.MIN_VALUE, Integer.MAX_VALUE}) {
      DUE.refuses("what " + what, IllegalArgumentException.class, () -> building.piece(1, what));
    }
  }

  private static void latestEdition() {
    BuildingText building = Due.of("P a 0 0/P b 0 0/P c 0 0/W a b =/D d a/E l a b c/");
    Due.read(building, "P a 0 0\nP b 0 0\nP c 0 0\nD d a\nE l b c\n");
    piece(building, 0, 0, 1, 1, 0, 0);
    piece(building, 1, 1, 0, 0, 1, -1);
    piece(building, 2, 2, 0, 0, 1, -1);
    Due.read(building, "P a 0 0\nP b 0 0\nW a b =\nD d a\nE l a b\n");
    piece(building, 1, 1, 1, 1, 1, 1);
    Due.read(building, "P a 0 0\nP b 0 0\n");
    piece(building, 0, 0, 0, 0, 0, -1);
    piece(building, 1, 1, 0, 0, 0, -1);
    Due.read(building, "P b 0 0\nP a 0 0\nD d a\nW a");
    piece(building, 1, 1, 0, 0, 0, -1);
  }
}
