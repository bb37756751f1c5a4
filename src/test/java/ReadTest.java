/** Promise 3 (read): which texts are refused, at which place, and the limits. */
public final class ReadTest {
  private static final Due DUE = new Due("ReadTest");
  private static final String RACK = "R r 0 0 5 5/";
  private static final String PIECES = "P p 1 0/P q 2 0/";

  public static void main(String[] args) {
    takenTexts();
    lines();
    names();
    numbers();
    usedNames();
    ways();
    lifts();
    mostPlaces();
    mostLinks();
    mostEditions();
    refusalComesFirst();
    DUE.end();
  }

  /** The caret stands before the sign that is refused, or behind all if it is the end. */
  private static void refused(String marked) {
    int place = marked.indexOf('^');
    String text = marked.replace("^", "").replace('/', '\n');
    BuildingText building = new BuildingText();
    DUE.same("read of " + marked, Due.read(building, text), -1 - place);
    DUE.same("editions after " + marked, building.count(3), 0);
    DUE.same("signs after " + marked, building.count(4), 0);
  }

  private static void taken(String text, int places) {
    BuildingText building = new BuildingText();
    DUE.same("read of " + text, Due.read(building, text.replace('/', '\n')), places);
    DUE.same("editions after " + text, building.count(3), 1);
    DUE.same("signs after " + text, building.count(4), 0);
  }

  private static void takenTexts() {
    taken("", 0);
    taken("R r 0 0 40 20/", 1);
    taken("R r 39 19 1 1/", 1);
    taken("R r 0 0 1 1/B b r 1 0 0 40 20/B c r 9 39 19 1 1/", 3);
    taken("P a 0 0/P z999 39 19/P a0 0 0/P zzzz 1 1/", 4);
    taken(RACK + "B b r 1 0 0 1 1/" + PIECES + "D d p/S s p/C c p/E e p/W p q >/W q p =/A b p/", 8);
    taken(PIECES + "E e p q p q/", 3);
    taken(PIECES + "W p q =/W p q =/", 2);
  }

  private static void lines() {
    refused("^ ");
    refused("^/");
    refused("^x p 1 0/");
    refused("^p p 1 0/");
    refused("P p 1 0/^/");
    refused("P p 1 0/^ P q 1 0/");
    refused("P p 1 0/^F q 1 0/");
    refused("P^");
    refused("P ^");
    refused("P p^");
    refused("P p ^");
    refused("P p 1^");
    refused("P p 1 ^");
    refused("P p 1 0^");
    refused("P p 1 0/P q 1 0^");
    refused("P^p 1 0/");
    refused("P ^ p 1 0/");
    refused("P p^/");
    refused("P p ^ 1 0/");
    refused("P p 1^/");
    refused("P p 1 0^ /");
    refused("P p 1 0^ 0/");
    refused("R r 0 0 1^/");
    refused("R r 0 0 1 1^ 1/");
    refused("B^/");
    refused("R r 0 0 1 1/B b r 1 0 0 1^/");
    refused("R r 0 0 1 1/B b r 1 0 0 1 1^ 1/");
    refused(PIECES + "D d^/");
    refused(PIECES + "S s p^ q/");
    refused(PIECES + "C c p^");
    refused(PIECES + "A^");
  }

  private static void names() {
    refused("P ^0 0 0/");
    refused("P ^A 0 0/");
    refused("P ^0a 0 0/");
    refused("P a^A 0 0/");
    refused("P a^_ 0 0/");
    refused("P ab^{ 0 0/");
    refused("P ab^` 0 0/");
    refused("P ab^: 0 0/");
    refused("P abcd^e 0 0/");
    refused("P a123^4 0 0/");
    refused("P abcd^");
    refused("P a 0 0/P ^a 1 1/");
    refused("P a 0 0/R ^a 0 0 1 1/");
    refused("P a 0 0/E ^a a/");
    refused("P a 0 0/D ^a a/");
    refused("R r 0 0 1 1/B ^r r 1 0 0 1 1/");
    refused("P abcd 0 0/P ^abcde 0 0/");
    refused("P a 0 0/P ^a/");
    refused("P a 0 0/P ^a");
    taken("P a 0 0/P ab 0 0/P abc 0 0/P abcd 0 0/P abc0 0 0/", 5);
  }

  private static void numbers() {
    refused("P p ^40 0/");
    refused("P p ^400 0/");
    refused("P p ^4294967297 0/");
    refused("P p ^18446744073709551617 0/");
    refused("P p ^40");
    refused("P p ^40x");
    refused("P p 4^x 0/");
    refused("P p 0^1 0/");
    refused("P p 0^0 0/");
    refused("P p ^-1 0/");
    refused("P p ^+1 0/");
    refused("P p 0 ^20/");
    refused("P p 0 ^x/");
    refused("R r 0 0 ^0 1/");
    refused("R r 0 0 ^01 1/");
    refused("R r 0 0 1 ^0/");
    refused("R r 0 0 ^41 1/");
    refused("R r 39 0 ^2 1/");
    refused("R r 1 0 ^40 1/");
    refused("R r 0 0 1 ^21/");
    refused("R r 0 19 1 ^2/");
    refused("R r 0 1 1 ^20/");
    refused("R r ^40 0 1 1/");
    refused("R r 0 ^20 1 1/");
    refused(RACK + "B b r ^0 0 0 1 1/");
    refused(RACK + "B b r ^10 0 0 1 1/");
    refused(RACK + "B b r ^05 0 0 1 1/");
    refused(RACK + "B b r 1 ^40 0 1 1/");
    refused(RACK + "B b r 1 0 ^20 1 1/");
    refused(RACK + "B b r 1 39 0 ^2 1/");
    refused(RACK + "B b r 1 0 19 1 ^2/");
    refused(RACK + "B b r 1 0 0 ^0 1/");
    refused(RACK + "B b r 1 0 0 1 ^0/");
  }

  private static void usedNames() {
    refused("B b ^r 1 0 0 1 1/");
    refused("B b ^b 1 0 0 1 1/");
    refused(PIECES + "B b ^p 1 0 0 1 1/");
    refused(RACK + "B b r 1 0 0 1 1/B c ^b 1 0 0 1 1/");
    refused(RACK + "B b ^rr 1 0 0 1 1/");
    refused("D d ^p/");
    refused("D d ^d/");
    refused("D d ^p/P p 0 0/");
    refused(RACK + "D d ^r/");
    refused(RACK + "S s ^r/");
    refused(RACK + "C c ^r/");
    refused(RACK + "E e ^r/");
    refused(PIECES + "D d p/S s ^d/");
    refused(PIECES + "E e p/E f p ^e/");
    refused(PIECES + "D d p/S s ^pp/");
    refused(PIECES + "D d ^0/");
    refused(PIECES + "A ^p p/");
    refused(PIECES + "A ^x p/");
    refused(RACK + PIECES + "A ^r p/");
    refused(RACK + "B b r 1 0 0 1 1/A b ^b/");
    refused(RACK + "B b r 1 0 0 1 1/A b ^r/");
    refused(RACK + "B b r 1 0 0 1 1/A b ^x/");
    refused("P abcd 0 0/D d abcd^e/");
  }

  private static void ways() {
    refused(PIECES + "W p ^p =/");
    refused(PIECES + "W p ^p/");
    refused(PIECES + "W ^x q =/");
    refused(PIECES + "W p ^x =/");
    refused(PIECES + "W p q^=/");
    refused(PIECES + "W p q ^</");
    refused(PIECES + "W p q ^?/");
    refused(PIECES + "W p q ^/");
    refused(PIECES + "W p q ^");
    refused(PIECES + "W p q =^>/");
    refused(PIECES + "W p q >^ /");
    refused(PIECES + "W p q >^");
    refused(PIECES + "D d p/W p ^d =/");
    refused(PIECES + "D d p/W ^d p =/");
    refused(RACK + "B b r 1 0 0 1 1/W ^b b =/");
  }

  private static void lifts() {
    refused("E e^/");
    refused("E e^");
    refused(PIECES + "E e ^/");
    refused(PIECES + "E e p^");
    refused(PIECES + "E e p ^/");
    refused(PIECES + "E e p q p q^ p/");
    refused(PIECES + "E e p q p q/^x");
    refused(PIECES + "E e p q ^e/");
    refused(PIECES + "E e p q p ^x/");
    taken(PIECES + "E e p/E f p q/E g q p q/E h p p p p/", 6);
  }

  private static String pieces(int count) {
    StringBuilder text = new StringBuilder();
    for (int i = 0; i < count; i++) {
      text.append("P ").append((char) ('a' + i / 10)).append(i % 10).append(" 0 0\n");
    }
    return text.toString();
  }

  private static void mostPlaces() {
    BuildingText building = new BuildingText();
    DUE.same("60 places", Due.read(building, pieces(60)), 60);
    Due.sign(building, pieces(61));
    DUE.refuses("61 places", UnsupportedOperationException.class, building::read);
    DUE.row("count after it", building::count, 60, 0, 0, 1, 0);
    DUE.same("last place", building.named(Due.nameCode("f9")), 59);
    Due.sign(building, pieces(250));
    DUE.refuses("250 places", UnsupportedOperationException.class, building::read);
    DUE.same("a text after it", Due.read(building, pieces(2)), 2);
    DUE.same("edition", building.count(3), 2);
    Due.sign(building, pieces(60) + "W a0 f9 =\nD d f9\n");
    DUE.refuses("a dock too many", UnsupportedOperationException.class, building::read);
    DUE.same("60 places and links", Due.read(building, pieces(59) + "W a0 f8 =\nE e f8 a0\n"), 60);
    DUE.same("steps", building.piece(0, 3), 1);
  }

  private static void mostLinks() {
    String start = "R r 0 0 1 1\nB b r 1 0 0 1 1\nP p 1 0\nP q 2 0\n";
    String way = "W p q >\n";
    String serve = "A b p\n";
    for (int ways : new int[] {0, 1, 30, 59, 60}) {
      BuildingText building = new BuildingText();
      String links = way.repeat(ways) + serve.repeat(60 - ways);
      DUE.same("60 links", Due.read(building, start + links), 4);
      DUE.row("60 links", building::count, 4, ways, 60 - ways);
      Due.sign(building, start + links + serve);
      DUE.refuses("61 links", UnsupportedOperationException.class, building::read);
      Due.sign(building, start + way + links);
      DUE.refuses("61 links", UnsupportedOperationException.class, building::read);
      DUE.row("after 61 links", building::count, 4, ways, 60 - ways, 1, 0);
    }
  }

  private static void mostEditions() {
    BuildingText building = new BuildingText();
    for (int edition = 1; edition <= 7; edition++) {
      DUE.same("edition " + edition, Due.read(building, pieces(edition)), edition);
      DUE.same("a text that is refused", Due.read(building, "P"), -2);
      DUE.same("count(3)", building.count(3), edition);
    }
    Due.sign(building, pieces(3));
    DUE.refuses("an eighth edition", UnsupportedOperationException.class, building::read);
    DUE.row("count after it", building::count, 7, 0, 0, 7, 0);
    DUE.refuses("again", UnsupportedOperationException.class, building::read);
    DUE.same("what is refused goes first", Due.read(building, "P"), -2);
    DUE.refuses("differ", IllegalArgumentException.class, () -> building.differ(8));
  }

  private static void refusalComesFirst() {
    BuildingText building = new BuildingText();
    String text = pieces(61);
    DUE.same("61 places and a line that is refused", Due.read(building, text + "Q"), -1 - text.length());
    DUE.same("a name that the 61st has", Due.read(building, text + "P g0 0 0\n"), -3 - text.length());
    DUE.same("a place at the 61st", Due.read(building, text + "D d g0\nX"), -8 - text.length());
    String links = pieces(2) + "W a0 a1 =\n".repeat(61);
    DUE.same("61 links and the end", Due.read(building, links + "W a0 a1 ="), -10 - links.length());
    DUE.row("count", building::count, 0, 0, 0, 0, 0);
  }
}
