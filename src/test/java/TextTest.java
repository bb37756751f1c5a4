/** The terms that promise 3 (read) rests on: which texts are taken, and where others are refused. */
public final class TextTest {
  private static final Due DUE = new Due("TextTest");
  private static final String RACK = "R r 0 0 5 5/";
  private static final String BIN = "B b r 1 0 0 1 1/";
  private static final String PIECES = "P p 1 0/P q 2 0/";
  /** A place of each kind, its name being the letter of its line in small; q is a second piece. */
  private static final String ALL_KINDS = RACK + BIN + PIECES + "D d p/S s p/C c p/E e p/";
  /** Lines of each kind with as many parts as there can be; names and numbers have one sign. */
  private static final String ALL_LINES = RACK + BIN + PIECES + "D d p/S s p/C c p/E e p q p q/W p q >/A b p/";
  private static final String LETTERS = "abcdefghijklmnopqrstuvwxyz";
  private static final String DIGITS = "0123456789";

  public static void main(String[] args) {
    linesAndBlanks();
    namesAndNumbers();
    kindsOfLines();
    usedNames();
    refusedPlaces();
    DUE.end();
  }

  private static void test(String words, Due.Call test) {
    DUE.test("promise 3, terms", words, test);
  }

  private static void linesAndBlanks() {
    test("A TEXT is what was signed: LINES, each ended by sign 10", TextTest::lineEnds);
    test("A TEXT is what was signed: LINES | none", TextTest::emptyText);
    test("A line begins with one of R, B, P, W, D, S, C, E, A", TextTest::lineBeginnings);
    test("its parts follow, one blank (32) before each | none", TextTest::noBlank);
    test("its parts follow, one blank (32) before each | two", TextTest::twoBlanks);
    test("its parts follow, one blank (32) before each | another sign", TextTest::anotherSignForBlank);
    test("its parts follow | too few", TextTest::tooFewParts);
    test("its parts follow | too many", TextTest::tooManyParts);
  }

  private static void namesAndNumbers() {
    test("A NAME is a letter a .. z", TextTest::firstSignOfName);
    test("and up to three more letters or digits | which", TextTest::moreSignsOfName);
    test("and up to three more letters or digits | how many", TextTest::lengthOfName);
    test("a NUMBER one or more digits | none", TextTest::firstSignOfNumber);
    test("a NUMBER one or more digits | more", TextTest::moreSignsOfNumber);
    test("without a 0 in front (but 0 itself)", TextTest::zeroInFront);
  }

  private static void kindsOfLines() {
    test("THE FLOOR has points x 0 .. 39", TextTest::floorWidth);
    test("THE FLOOR has points .. y 0 .. 19", TextTest::floorDepth);
    test("a RACK, .. w and h 1 and up", TextTest::leastRack);
    test("a RACK, from x, y on, w wide .. within the floor", TextTest::widestRacks);
    test("a RACK, from x, y on, .. h deep, .. within the floor", TextTest::deepestRacks);
    test("a BIN of a rack, on level 1 .. 9", TextTest::levels);
    test("a BIN .. likewise within the floor | w and h 1 and up", TextTest::leastBin);
    test("a BIN .. likewise within the floor", TextTest::largestBins);
    test("a BIN of a rack | also outside of it", TextTest::binOutsideOfRack);
    test("a LIFT with 1 to 4 stops", TextTest::stopsOfLift);
    test("a LIFT with 1 to 4 stops, pieces | one of them twice", TextTest::stopTwice);
    test("a WAY, kind > (sign 62) .. = (61)", TextTest::kindsOfWays);
    test("two different pieces", TextTest::differentPieces);
    test("These are PLACES; .. numbered 0, 1, .. in their order", TextTest::numbersOfPlaces);
  }

  private static void usedNames() {
    test("they have names that nothing else in the text has", TextTest::namesThereAlready);
    test("they have names that nothing else in the text has | names alike", TextTest::namesAlike);
    test("Names that are used stand in earlier lines | not there", TextTest::namesNotThere);
    test("Names that are used stand in earlier lines | later", TextTest::namesOfLaterLines);
    test("Names that are used stand in earlier lines | the same one", TextTest::namesOfSameLine);
    test("Names that are used stand in earlier lines | of another text", TextTest::namesOfEarlierText);
    test("and are of the kind that is said (rack, bin, piece)", TextTest::namesOfOtherKinds);
  }

  private static void refusedPlaces() {
    test("its PLACE is that of the first sign (0, 1, .. )", TextTest::firstWrongSign);
    test("the end counts as one", TextTest::everyEnd);
    test("a name that is there already, .. at its first sign", TextTest::longNameThereAlready);
    test("a name that is .. not there, .. at its first sign", TextTest::longNameNotThere);
    test("a name that is .. of another kind .. at its first sign", TextTest::longNameOfOtherKind);
    test("(also the second piece of a way, if it is the first) .. at its first sign", TextTest::longSecondPiece);
    test("a number that is out of its range, .. at its first sign", TextTest::numbersOutOfRange);
    test("or with which one ends beyond the floor, at its first sign", TextTest::numbersBeyondFloor);
    test("a number that is out of its range | a wrap-around", TextTest::hugeNumbers);
  }

  /** The caret stands before the sign that is refused, or behind all if it is the end. */
  private static void refused(String marked) {
    refusedAt(marked.replace("^", ""), marked.indexOf('^'));
  }

  private static void refusedAt(String lines, int place) {
    refusedTextAt(Due.text(lines), place);
  }

  private static void refusedTextAt(String text, int place) {
    BuildingText building = new BuildingText();
    Due.sign(building, text);
    DUE.same("read of " + text, building.read(), -1 - place);
    DUE.same("editions after " + text, building.count(3), 0);
  }

  private static void taken(String lines, int places) {
    BuildingText building = new BuildingText();
    DUE.same("read of " + lines, Due.read(building, lines), places);
    DUE.same("editions after " + lines, building.count(3), 1);
  }

  private interface SignCase {
    void of(char sign, boolean fits);
  }

  /** Every sign that can be signed, and whether it is one of those that fit. */
  private static void forEverySign(String fitting, SignCase test) {
    test.of('\n', fitting.indexOf('\n') >= 0);
    for (char sign = 32; sign <= 126; sign++) {
      test.of(sign, fitting.indexOf(sign) >= 0);
    }
  }

  private static void lineEnds() {
    taken("P p 1 0/", 1);
    refused("P p 1 0^");
    refused("P p 1 0/P q 1 0^");
    refused("^/");
    refused("P p 1 0/^/");
    refused("P p 1 0/^/P q 1 0/");
    refused("R r 0 0 5 5^");
    refused(RACK + "B b r 1 0 0 1 1^");
    refused(PIECES + "D d p^");
    refused(PIECES + "S s p^");
    refused(PIECES + "C c p^");
    refused(PIECES + "E e p^");
    refused(PIECES + "W p q =^");
    refused(RACK + BIN + PIECES + "A b p^");
  }

  private static void emptyText() {
    taken("", 0);
    BuildingText building = Due.of("P p 0 0/");
    DUE.same("an empty text after another", building.read(), 0);
    DUE.same("its number", building.count(3), 2);
    DUE.same("its places", building.count(0), 0);
  }

  private static void lineBeginnings() {
    forEverySign("RBPWDSCEA", (sign, fits) -> refusedTextAt("" + sign, fits ? 1 : 0));
    forEverySign("RBPWDSCEA", (sign, fits) -> refusedTextAt("P p 0 0\n" + sign, fits ? 9 : 8));
    taken(ALL_KINDS + "W p q =/A b p/", 8);
  }

  private static void noBlank() {
    refused("R^r 0 0 5 5/");
    refused("P^p 1 0/");
    refused("P p1 0^/");
    refused("P p 10^/");
    refused(RACK + "B^b r 1 0 0 1 1/");
    refused(RACK + "B br ^1 0 0 1 1/");
    refused(RACK + "B b r 1 0 0 11^/");
    refused(PIECES + "W^p q =/");
    refused(PIECES + "W p q^=/");
    refused(PIECES + "D^d p/");
    refused(PIECES + "D dp^/");
    refused(PIECES + "S^s p/");
    refused(PIECES + "C^c p/");
    refused(PIECES + "E^e p/");
    refused(PIECES + "E ep^/");
    refused(RACK + BIN + PIECES + "A^b p/");
  }

  private static void twoBlanks() {
    taken(ALL_LINES, 8);
    for (int i = 0; i < ALL_LINES.length(); i++) {
      if (ALL_LINES.charAt(i) == ' ') {
        refusedAt(ALL_LINES.substring(0, i) + " " + ALL_LINES.substring(i), i + 1);
      }
    }
    refused("^ P p 1 0/");
    refused("P p 1 0/^ P q 1 0/");
  }

  private static void anotherSignForBlank() {
    for (int i = 0; i < ALL_LINES.length(); i++) {
      if (ALL_LINES.charAt(i) == ' ') {
        refusedAt(ALL_LINES.substring(0, i) + "_" + ALL_LINES.substring(i + 1), i);
        refusedAt(ALL_LINES.substring(0, i) + "!" + ALL_LINES.substring(i + 1), i);
      }
    }
  }

  private static void tooFewParts() {
    refused("R^/");
    refused("R r^/");
    refused("R r 0^/");
    refused("R r 0 0^/");
    refused("R r 0 0 1^/");
    refused(RACK + "B b^/");
    refused(RACK + "B b r^/");
    refused(RACK + "B b r 1^/");
    refused(RACK + "B b r 1 0^/");
    refused(RACK + "B b r 1 0 0^/");
    refused(RACK + "B b r 1 0 0 1^/");
    refused("P p^/");
    refused("P p 1^/");
    refused(PIECES + "D^/");
    refused(PIECES + "D d^/");
    refused(PIECES + "S s^/");
    refused(PIECES + "C c^/");
    refused(PIECES + "E e^/");
    refused(PIECES + "W^/");
    refused(PIECES + "W p^/");
    refused(PIECES + "W p q^/");
    refused(PIECES + "W p q ^/");
    refused(RACK + BIN + PIECES + "A^/");
    refused(RACK + BIN + PIECES + "A b^/");
  }

  private static void tooManyParts() {
    refused("R r 0 0 1 1^ 1/");
    refused("R r 0 0 1 1^ /");
    refused(RACK + "B b r 1 0 0 1 1^ 1/");
    refused("P p 1 0^ 0/");
    refused("P p 1 0^ /");
    refused(PIECES + "D d p^ q/");
    refused(PIECES + "S s p^ q/");
    refused(PIECES + "C c p^ q/");
    refused(PIECES + "W p q =^ q/");
    refused(PIECES + "W p q =^ /");
    refused(PIECES + "W p q =^>/");
    refused(RACK + BIN + PIECES + "A b p^ q/");
  }

  private static void firstSignOfName() {
    forEverySign(LETTERS, (sign, fits) -> {
      refusedTextAt("P " + sign, fits ? 3 : 2);
      refusedTextAt("P " + sign + " 0 0\nP", fits ? 9 : 2);
    });
    refused(PIECES + "D d ^0/");
    refused(PIECES + "D d ^P/");
    refused(PIECES + "W ^= q =/");
  }

  private static void moreSignsOfName() {
    forEverySign(LETTERS + DIGITS + " ", (sign, fits) -> {
      for (String before : new String[] {"a", "a0", "aa0"}) {
        int place = 2 + before.length();
        refusedTextAt("P " + before + sign, fits ? place + 1 : place);
      }
    });
    forEverySign(LETTERS + DIGITS, (sign, fits) -> {
      if (fits) {
        taken("P a" + sign + " 0 0/P aa" + sign + "a 0 0/P a00" + sign + " 0 0/", 3);
      }
    });
  }

  private static void lengthOfName() {
    taken("P a 0 0/P ab 0 0/P abc 0 0/P abcd 0 0/P z 0 0/P z9 0 0/P z99 0 0/P z999 0 0/", 8);
    refused("P abcd^e 0 0/");
    refused("P a123^4 0 0/");
    refused("P abcd^");
    refused("P abcd 0 0/D d abcd^e/");
    refused("P abcd 0 0/E e abcd abcd^e/");
    forEverySign(" ", (sign, fits) -> refusedTextAt("P abcd" + sign, fits ? 7 : 6));
  }

  private static void firstSignOfNumber() {
    forEverySign(DIGITS, (sign, fits) -> {
      refusedTextAt("P p " + sign, fits ? 5 : 4);
      refusedTextAt("P p 0 " + sign, fits ? 7 : 6);
    });
    refused("P p ^-1 0/");
    refused("P p ^+1 0/");
    refused("R r 0 0 ^-1 1/");
    refused(RACK + "B b r ^p 0 0 1 1/");
  }

  private static void moreSignsOfNumber() {
    forEverySign(DIGITS + " ", (sign, fits) -> refusedTextAt("P p 1" + sign, fits ? 6 : 5));
    forEverySign(DIGITS + "\n", (sign, fits) -> refusedTextAt("P p 0 1" + sign + "!", fits ? 8 : 7));
    taken("P p 10 19/R r 12 13 14 7/", 2);
  }

  private static void zeroInFront() {
    taken("P p 0 0/", 1);
    for (char digit : DIGITS.toCharArray()) {
      refused("P p 0^" + digit + " 0/");
      refused("P p 0 0^" + digit + "/");
    }
    refused("P p 0^12 0/");
    refused("R r 0^1 0 1 1/");
    refused("R r 0 0^1 1 1/");
    // No w, h or level is 0, so that a 0 in front is out of the range already.
    refused("R r 0 0 ^01 1/");
    refused("R r 0 0 1 ^01/");
    refused(RACK + "B b r ^01 0 0 1 1/");
  }

  private static void floorWidth() {
    for (int x = 0; x <= 39; x++) {
      taken("P p " + x + " 0/R r " + x + " 0 1 1/B b r 1 " + x + " 0 1 1/", 3);
    }
    refused("P p ^40 0/");
    refused("R r ^40 0 1 1/");
    refused(RACK + "B b r 1 ^40 0 1 1/");
  }

  private static void floorDepth() {
    for (int y = 0; y <= 19; y++) {
      taken("P p 0 " + y + "/R r 0 " + y + " 1 1/B b r 1 0 " + y + " 1 1/", 3);
    }
    refused("P p 0 ^20/");
    refused("R r 0 ^20 1 1/");
    refused(RACK + "B b r 1 0 ^20 1 1/");
  }

  private static void leastRack() {
    taken("R r 0 0 1 1/", 1);
    refused("R r 0 0 ^0 1/");
    refused("R r 0 0 1 ^0/");
    refused("R r 39 19 ^0 0/");
  }

  private static void widestRacks() {
    for (int x = 0; x <= 39; x++) {
      taken("R r " + x + " 0 " + (40 - x) + " 1/", 1);
      refused("R r " + x + " 0 ^" + (41 - x) + " 1/");
    }
    taken("R r 0 0 40 20/", 1);
  }

  private static void deepestRacks() {
    for (int y = 0; y <= 19; y++) {
      taken("R r 0 " + y + " 1 " + (20 - y) + "/", 1);
      refused("R r 0 " + y + " 1 ^" + (21 - y) + "/");
    }
    refused("R r 0 0 20 ^40/");
  }

  private static void levels() {
    for (int level = 1; level <= 9; level++) {
      taken(RACK + "B b r " + level + " 0 0 1 1/", 2);
    }
    for (int level : new int[] {0, 10, 11, 19, 90, 99, 100}) {
      refused(RACK + "B b r ^" + level + " 0 0 1 1/");
    }
  }

  private static void leastBin() {
    taken(RACK + "B b r 1 39 19 1 1/", 2);
    refused(RACK + "B b r 1 0 0 ^0 1/");
    refused(RACK + "B b r 1 0 0 1 ^0/");
  }

  private static void largestBins() {
    for (int x = 0; x <= 39; x++) {
      taken(RACK + "B b r 1 " + x + " 0 " + (40 - x) + " 1/", 2);
      refused(RACK + "B b r 1 " + x + " 0 ^" + (41 - x) + " 1/");
    }
    for (int y = 0; y <= 19; y++) {
      taken(RACK + "B b r 1 0 " + y + " 1 " + (20 - y) + "/", 2);
      refused(RACK + "B b r 1 0 " + y + " 1 ^" + (21 - y) + "/");
    }
    taken(RACK + "B b r 1 0 0 40 20/", 2);
  }

  private static void binOutsideOfRack() {
    taken("R r 0 0 1 1/B b r 1 39 19 1 1/B c r 1 0 0 40 20/", 3);
  }

  private static void stopsOfLift() {
    refused(PIECES + "E e^/");
    refused(PIECES + "E e ^/");
    String stops = "";
    for (int count = 1; count <= 4; count++) {
      stops += count % 2 == 1 ? " p" : " q";
      taken(PIECES + "E e" + stops + "/", 3);
      refused(PIECES + "E e" + stops + "^");
      refused(PIECES + "E e" + stops + (count == 4 ? "^ /" : " ^/"));
    }
    refused(PIECES + "E e p q p q^ p/");
    refused(PIECES + "E e p q p q^ x/");
    refused(PIECES + "E e p q p ^x/");
  }

  private static void stopTwice() {
    taken(PIECES + "E e p p/E f p q p/E g q q q q/", 5);
  }

  private static void kindsOfWays() {
    forEverySign("=>", (sign, fits) -> {
      refusedTextAt(Due.text(PIECES) + "W p q " + sign, fits ? 23 : 22);
      if (fits) {
        taken(PIECES + "W p q " + sign + "/", 2);
      }
    });
  }

  private static void differentPieces() {
    taken(PIECES + "W p q =/W q p >/W p q =/", 2);
    refused(PIECES + "W p ^p =/");
    refused(PIECES + "W q ^q >/");
    // Two pieces at one point are different ones.
    taken("P p 3 3/P q 3 3/W p q =/", 2);
  }

  private static void numbersOfPlaces() {
    BuildingText building = Due.of("P p 1 0/P q 2 0/W p q =/D d p/R r 0 0 1 1/W q p >/B b r 1 0 0 1 1/A b q/S s q/");
    String names = "pqdrbs";
    for (int i = 0; i < names.length(); i++) {
      DUE.same("place of " + names.charAt(i), building.named(names.charAt(i)), i);
    }
    DUE.same("places", building.count(0), 6);
  }

  private static void namesThereAlready() {
    String[] again = {"R ^# 0 0 1 1/", "B ^# r 1 0 0 1 1/", "P ^# 1 0/", "D ^# p/", "S ^# p/", "C ^# p/", "E ^# p/"};
    for (String there : new String[] {"r", "b", "p", "d", "s", "c", "e", "q"}) {
      for (String line : again) {
        refused(ALL_KINDS + line.replace("#", there));
      }
    }
  }

  private static void namesAlike() {
    taken("P a 0 0/P aa 0 0/P a0 0 0/P aaa 0 0/P aaaa 0 0/P aaab 0 0/P b 0 0/P baaa 0 0/", 8);
  }

  private static void namesNotThere() {
    refused(PIECES + "B b ^x 1 0 0 1 1/");
    refused(RACK + "D d ^x/");
    refused(RACK + "S s ^x/");
    refused(RACK + "C c ^x/");
    refused(PIECES + "E e ^x/");
    refused(PIECES + "E e p ^x/");
    refused(PIECES + "E e p q ^x/");
    refused(PIECES + "E e p q p ^x/");
    refused(PIECES + "W ^x q =/");
    refused(PIECES + "W p ^x =/");
    refused(RACK + BIN + PIECES + "A ^x p/");
    refused(RACK + BIN + PIECES + "A b ^x/");
    refused(PIECES + "D d ^pp/");
    refused("P pq 0 0/D d ^p/");
    refused("P pq 0 0/D d ^q/");
  }

  private static void namesOfLaterLines() {
    refused("B b ^r 1 0 0 1 1/" + RACK);
    refused("D d ^p/" + PIECES);
    refused("W ^p q =/" + PIECES);
    refused("P p 1 0/W p ^q =/P q 2 0/");
    refused("P p 1 0/E e p ^q/P q 2 0/");
    refused(PIECES + "A ^b p/" + RACK + BIN);
  }

  private static void namesOfSameLine() {
    refused("B b ^b 1 0 0 1 1/");
    refused("D d ^d/");
    refused("E e ^e/");
    refused(PIECES + "E e p ^e/");
  }

  private static void namesOfEarlierText() {
    BuildingText building = Due.of(RACK + PIECES);
    DUE.same("a piece of the text before", Due.read(building, "D d p/"), -5);
    DUE.same("a rack of the text before", Due.read(building, "B b r 1 0 0 1 1/"), -5);
    DUE.same("names of the text before", Due.read(building, PIECES + RACK), 3);
  }

  private static void namesOfOtherKinds() {
    onlyOfKind("rbpdsce", "r", "B x ^# 1 0 0 1 1/");
    onlyOfKind("rbpdsce", "p", "D x ^#/");
    onlyOfKind("rbpdsce", "p", "S x ^#/");
    onlyOfKind("rbpdsce", "p", "C x ^#/");
    onlyOfKind("rbpdsce", "p", "E x ^#/");
    onlyOfKind("rbpdsce", "p", "E x q ^#/");
    onlyOfKind("rbpdsce", "p", "E x q q ^#/");
    onlyOfKind("rbpdsce", "p", "E x q q q ^#/");
    onlyOfKind("rbpdsce", "p", "W ^# q >/");
    onlyOfKind("rbpdsce", "p", "W q ^# =/");
    onlyOfKind("rbpdsce", "b", "A ^# p/");
    onlyOfKind("rbpdsce", "p", "A b ^#/");
  }

  private static void onlyOfKind(String names, String fitting, String line) {
    for (String name : names.split("")) {
      String marked = ALL_KINDS + line.replace("#", name);
      if (name.equals(fitting)) {
        DUE.holds("taken: " + marked, Due.read(new BuildingText(), marked.replace("^", "")) >= 8);
      } else {
        refused(marked);
      }
    }
  }

  private static void firstWrongSign() {
    refused("^x");
    refused("P p 1 0/^x");
    refused("P p ^40 20/Q");
    refused("P p 1 0^x/P p 1 0/");
    refused("P p 1 0/P ^p 40 0/P p 1 0/");
    refused(PIECES + "W ^x y ?/");
    refused(PIECES + "W p ^x ?/");
    refused(PIECES + "W p ^p ?/");
    refused("B b ^r 0 40 20 0 0/");
    refused(RACK + "B b r ^0 40 20 0 0/");
    refused(RACK + "B b r 1 ^40 20 0 0/");
    refused(RACK + "B b r 1 0 ^20 0 0/");
    refused(RACK + "B b r 1 0 0 ^0 0/");
  }

  private static void everyEnd() {
    for (int end = 0; end <= ALL_LINES.length(); end++) {
      if (end == 0 || ALL_LINES.charAt(end - 1) == '/') {
        DUE.holds("taken up to " + end, Due.read(new BuildingText(), ALL_LINES.substring(0, end)) >= 0);
      } else {
        refusedAt(ALL_LINES.substring(0, end), end);
      }
    }
  }

  private static void longNameThereAlready() {
    refused("P abcd 0 0/P ^abcd 1 0/");
    refused("P abcd 0 0/R ^abcd 0 0 1 1/");
    refused("P ab 0 0/E ^ab ab/");
  }

  private static void longNameNotThere() {
    refused("P abcd 0 0/D d ^abce/");
    refused("P abcd 0 0/D d ^abc/");
    refused("P abcd 0 0/E e abcd ^bbcd/");
    refused("P abcd 0 0/W abcd ^abc0 =/");
    refused("P abcd 0 0/A ^bin0 abcd/");
    refused("R rack 0 0 1 1/B b ^rac 1 0 0 1 1/");
  }

  private static void longNameOfOtherKind() {
    refused("R rack 0 0 1 1/D d ^rack/");
    refused("P pie 0 0/B bin ^pie 1 0 0 1 1/");
    refused("P pie 0 0/A ^pie pie/");
    refused("R rack 0 0 1 1/B bin rack 1 0 0 1 1/A bin ^rack/");
  }

  private static void longSecondPiece() {
    refused("P abcd 0 0/W abcd ^abcd =/");
    refused("P abcd 0 0/W abcd ^abcd/");
  }

  private static void numbersOutOfRange() {
    for (String number : new String[] {"40", "41", "50", "99", "100", "399", "1000"}) {
      refused("P p ^" + number + " 0/");
      refused("R r ^" + number + " 0 1 1/");
    }
    for (String number : new String[] {"20", "21", "39", "100", "190", "1000"}) {
      refused("P p 0 ^" + number + "/");
      refused("R r 0 ^" + number + " 1 1/");
    }
    refused("P p ^40");
    refused(RACK + "B b r ^12 0 0 1 1/");
  }

  private static void numbersBeyondFloor() {
    refused("R r 30 0 ^11 1/");
    refused("R r 0 10 1 ^11/");
    refused("R r 39 0 ^40 1/");
    refused(RACK + "B b r 1 25 0 ^16 1/");
    refused(RACK + "B b r 1 0 5 1 ^16/");
    refused("R r 0 0 ^100 1/");
  }

  private static void hugeNumbers() {
    // 2 to the 8th, 16th, 32nd and 64th, and these with 1 more, would be 0 or 1 if they wrapped around.
    String[] huge = {"256", "257", "65536", "65537", "2147483648", "4294967296", "4294967297", "4294967300",
        "18446744073709551616", "18446744073709551617", "1" + "0".repeat(300)};
    for (String number : huge) {
      refused("P p ^" + number + " 0/");
      refused("P p 0 ^" + number + "/");
      refused("R r 0 0 ^" + number + " 1/");
      refused("R r 0 0 1 ^" + number + "/");
      refused(RACK + "B b r ^" + number + " 0 0 1 1/");
    }
  }
}
