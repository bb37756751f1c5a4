/** Promise 3 (read): what is answered, what is then collected, the limits, and editions. */
public final class ReadTest {
  private static final Due DUE = new Due("ReadTest");
  private static final String PIECES = "P p 1 0/P q 2 0/";
  private static final String LINKED = "R r 0 0 1 1/B b r 1 0 0 1 1/" + PIECES;
  private static final String WAY = "W p q =/";
  private static final String SERVE = "A b p/";

  public static void main(String[] args) {
    DUE.test("promise 3", "how many places it has", ReadTest::answersPlaces);
    DUE.test("promise 3", "or -1 less the place at which it is refused", ReadTest::answersRefusedPlace);
    DUE.test("promise 3", "Reads what was collected (nothing is, then) | taken", ReadTest::nothingIsAfterTaken);
    DUE.test("promise 3", "Reads what was collected (nothing is, then) | refused", ReadTest::nothingIsAfterRefused);
    DUE.test("promise 3", "Reads what was collected (nothing is, then) | thrown", ReadTest::nothingIsAfterThrown);
    limits();
    editions();
    DUE.test("what it is", "An object is used for at most 512 calls after it has been made | signs and a read", ReadTest::longestText);
    DUE.test("what it is", "An object is used for at most 512 calls after it has been made | reads", ReadTest::mostReads);
    DUE.end();
  }

  private static void limits() {
    DUE.test("promise 3", "UnsupportedOperationException .. more than 60 places", ReadTest::mostPlaces);
    DUE.test("promise 3", "more than 60 places | of any kind", ReadTest::mostPlacesOfEachKind);
    DUE.test("promise 3", "more than 60 places | lines W and A are none", ReadTest::linksAreNoPlaces);
    DUE.test("promise 3", "more than 60 lines W", ReadTest::mostWays);
    DUE.test("promise 3", "more than 60 lines .. A", ReadTest::mostServes);
    DUE.test("promise 3", "more than 60 lines W and A together", ReadTest::mostLinksTogether);
    DUE.test("promise 3", "more than 60 lines W and A together | lifts are none", ReadTest::liftsAreNoLinks);
    DUE.test("promise 3", "or an eighth edition", ReadTest::mostEditions);
    DUE.test("promise 3", "or an eighth edition | refused ones are none", ReadTest::refusedTextsAreNoEditions);
    DUE.test("promise 3", "or an eighth edition | thrown ones are none", ReadTest::thrownTextsAreNoEditions);
    DUE.test("promise 3", "where it is not refused so | more than 60 places", ReadTest::refusedBeforePlaces);
    DUE.test("promise 3", "where it is not refused so | more than 60 lines", ReadTest::refusedBeforeLinks);
    DUE.test("promise 3", "where it is not refused so | an eighth edition", ReadTest::refusedBeforeEditions);
  }

  private static void editions() {
    DUE.test("promise 3, terms", "EDITIONS are numbered 1, 2, .. as texts are taken", ReadTest::numbersOfEditions);
    DUE.test("promise 3, terms", "edition 0 is empty", ReadTest::editionNought);
    DUE.test("promise 3, terms", "What is asked is told of the latest one", ReadTest::latestIsAsked);
    DUE.test("promise 3", "What is asked is told of the latest one | a refused text", ReadTest::refusedChangesNothing);
    DUE.test("promise 3", "What is asked is told of the latest one | a refused call", ReadTest::thrownChangesNothing);
  }

  private static void answersPlaces() {
    for (int places : new int[] {0, 1, 2, 59, 60}) {
      DUE.same("read", Due.read(new BuildingText(), Due.places(places)), places);
    }
    DUE.same("each kind", Due.read(new BuildingText(),
        LINKED + "D d p/S s p/C c p/E e p q/" + WAY + SERVE), 8);
  }

  private static void answersRefusedPlace() {
    DUE.same("place 0", Due.read(new BuildingText(), "x"), -1);
    DUE.same("place 1", Due.read(new BuildingText(), "Px"), -2);
    DUE.same("place 1, the end", Due.read(new BuildingText(), "P"), -2);
    String text = Due.places(60);
    DUE.same("the end of many signs", Due.read(new BuildingText(), text + "P"), -2 - text.length());
    DUE.same("the sign behind many", Due.read(new BuildingText(), text + "/"), -1 - text.length());
  }

  private static void nothingIsAfterTaken() {
    BuildingText building = new BuildingText();
    DUE.same("taken", Due.read(building, "P p 0 0/"), 1);
    DUE.same("signs", building.count(4), 0);
    DUE.same("the next text", Due.read(building, "P q 0 0/P p 0 0/"), 2);
    DUE.same("nothing", building.read(), 0);
  }

  private static void nothingIsAfterRefused() {
    BuildingText building = new BuildingText();
    DUE.same("refused amid its signs", Due.read(building, "P p 0 0/x p 0 0/"), -9);
    DUE.same("signs", building.count(4), 0);
    DUE.same("refused at its end", Due.read(building, "P p 0 "), -7);
    DUE.same("signs", building.count(4), 0);
    DUE.same("the next text", Due.read(building, "P p 0 0/"), 1);
  }

  private static void nothingIsAfterThrown() {
    BuildingText building = new BuildingText();
    throwsAtRead("too many places", building, Due.places(61));
    DUE.same("signs", building.count(4), 0);
    DUE.same("the next text", Due.read(building, "P p 0 0/"), 1);
    BuildingText full = fullOfEditions();
    throwsAtRead("an eighth edition", full, "P p 0 0/");
    DUE.same("signs", full.count(4), 0);
    DUE.same("the next text", Due.read(full, "x"), -1);
  }

  private static void throwsAtRead(String what, BuildingText building, String lines) {
    Due.sign(building, Due.text(lines));
    DUE.refusesMore(what, building::read);
  }

  private static BuildingText fullOfEditions() {
    BuildingText building = new BuildingText();
    for (int edition = 1; edition <= 7; edition++) {
      building.read();
    }
    return building;
  }

  private static void mostPlaces() {
    BuildingText building = new BuildingText();
    DUE.same("60 places", Due.read(building, Due.places(60)), 60);
    DUE.same("the last one", building.named(Due.nameCode(Due.placeName(59))), 59);
    throwsAtRead("61 places", new BuildingText(), Due.places(61));
    throwsAtRead("62 places", new BuildingText(), Due.places(62));
    throwsAtRead("76 places", new BuildingText(), Due.places(76));
  }

  private static void mostPlacesOfEachKind() {
    for (String kind : new String[] {"R x 0 0 1 1/", "P x 0 0/", "D x p/", "S x p/", "C x p/", "E x p/", "E x p p p p/"}) {
      DUE.same("60 places: " + kind, Due.read(new BuildingText(), Due.places(59).replace("D x p/", "D xx p/") + kind), 60);
      throwsAtRead("61 places: " + kind, new BuildingText(), Due.places(60).replace("D x p/", "D xx p/") + kind);
    }
    String bins = "R rr 0 0 1 1/B bb rr 1 0 0 1 1/";
    DUE.same("60 places: bin", Due.read(new BuildingText(), Due.places(58) + bins), 60);
    throwsAtRead("61 places: bin", new BuildingText(), Due.places(59) + bins);
  }

  private static void linksAreNoPlaces() {
    BuildingText building = new BuildingText();
    DUE.same("60 places, 1 line W", Due.read(building, Due.places(59) + "P p0 1 0/W p p0 =/"), 60);
    DUE.same("60 places, 2 lines A", Due.read(new BuildingText(),
        Due.places(58) + "R rr 0 0 1 1/B bb rr 1 0 0 1 1/A bb p/A bb p/"), 60);
  }

  /** Texts are kept so short that an object is used for 512 calls at most. */
  private static void links(String start, int ways, int serves) {
    String lines = start + WAY.repeat(ways) + SERVE.repeat(serves);
    BuildingText building = new BuildingText();
    if (ways + serves <= 60) {
      DUE.holds(ways + " W, " + serves + " A", Due.read(building, lines) > 0);
      DUE.same("lines W", building.count(1), ways);
      DUE.same("lines A", building.count(2), serves);
    } else {
      throwsAtRead(ways + " W, " + serves + " A", building, lines);
      DUE.same("lines W", building.count(1), 0);
      DUE.same("lines A", building.count(2), 0);
    }
  }

  private static void mostWays() {
    links(PIECES, 59, 0);
    links(PIECES, 60, 0);
    links(PIECES, 61, 0);
    String kinds = PIECES + "W p q >/".repeat(30) + "W q p =/".repeat(30);
    DUE.same("both kinds", Due.read(new BuildingText(), kinds), 2);
    throwsAtRead("both kinds", new BuildingText(), kinds + "W q p >/");
  }

  private static void mostServes() {
    links(LINKED, 0, 59);
    links(LINKED, 0, 60);
    links(LINKED, 0, 61);
  }

  private static void mostLinksTogether() {
    for (int ways : new int[] {1, 2, 30, 45}) {
      links(LINKED, ways, 60 - ways);
      links(LINKED, ways, 61 - ways);
    }
    links(LINKED, 31, 31);
    throwsAtRead("W behind A", new BuildingText(), LINKED + SERVE.repeat(60) + WAY);
  }

  private static void liftsAreNoLinks() {
    DUE.same("60 lines and lifts", Due.read(new BuildingText(),
        LINKED + "E e p q p q/" + SERVE.repeat(60) + "E f p q/D d p/"), 7);
  }

  private static void mostEditions() {
    BuildingText building = new BuildingText();
    for (int edition = 1; edition <= 7; edition++) {
      DUE.same("edition " + edition, Due.read(building, Due.places(edition)), edition);
    }
    throwsAtRead("an eighth one", building, Due.places(3));
    DUE.row("count after it", building::count, 7, 0, 0, 7, 0);
    DUE.refusesMore("an eighth one, empty", building::read);
    DUE.row("count after it", building::count, 7, 0, 0, 7, 0);
    DUE.refusesArgument("differ from it", () -> building.differ(8));
  }

  private static void refusedTextsAreNoEditions() {
    BuildingText building = new BuildingText();
    for (int i = 0; i < 9; i++) {
      DUE.same("refused", Due.read(building, "P"), -2);
    }
    for (int edition = 1; edition <= 7; edition++) {
      DUE.same("taken", Due.read(building, "P p 0 0/"), 1);
      DUE.same("refused", Due.read(building, "P p 0"), -6);
      DUE.same("edition", building.count(3), edition);
    }
  }

  private static void thrownTextsAreNoEditions() {
    BuildingText building = new BuildingText();
    throwsAtRead("61 places", building, Due.places(61));
    for (int edition = 1; edition <= 7; edition++) {
      DUE.same("taken", building.read(), 0);
      DUE.same("edition", building.count(3), edition);
    }
  }

  private static void refusedBeforePlaces() {
    String text = Due.places(61);
    int end = text.length();
    DUE.same("a wrong sign behind 61", Due.read(new BuildingText(), text + "Q"), -1 - end);
    DUE.same("an end behind 61", Due.read(new BuildingText(), text + "P x1"), -5 - end);
    DUE.same("the 61st's name again", Due.read(new BuildingText(),
        text + "P " + Due.placeName(60) + " 0 0/"), -3 - end);
    DUE.same("the 61st is no piece", Due.read(new BuildingText(),
        text + "D x1 " + Due.placeName(60) + "/"), -6 - end);
    String open = text.substring(0, end - 1);
    DUE.same("the 61st without its end", Due.read(new BuildingText(), open), -end);
  }

  private static void refusedBeforeLinks() {
    String text = LINKED + SERVE.repeat(61);
    int end = text.length();
    DUE.same("a wrong sign behind 61", Due.read(new BuildingText(), text + "Q"), -1 - end);
    DUE.same("the 61st without its end", Due.read(new BuildingText(), text.substring(0, end - 1)), -end);
    DUE.same("a 62nd with a name not there", Due.read(new BuildingText(), text + "A x p/"), -3 - end);
  }

  private static void refusedBeforeEditions() {
    BuildingText building = fullOfEditions();
    DUE.same("a wrong sign", Due.read(building, "Q"), -1);
    DUE.same("an end", Due.read(building, "P p 0 0"), -8);
    DUE.same("a name not there", Due.read(building, "D d p/"), -5);
    throwsAtRead("not refused", building, "P p 0 0/");
  }

  private static void numbersOfEditions() {
    BuildingText building = Due.of("R r 0 0 2 2/B b r 1 0 0 1 1/");
    DUE.same("the first one", building.count(3), 1);
    building.fill(1, 1, 5);
    Due.read(building, "x");
    Due.take(building, "R r 0 0 2 2/B c r 1 0 0 1 1/");
    DUE.same("the second one", building.count(3), 2);
    building.fill(2, 1, 7);
    building.read();
    DUE.same("units of the first one", building.differ(1), 5);
    DUE.same("units of the second one", building.differ(2), 7);
  }

  private static void editionNought() {
    BuildingText building = new BuildingText();
    DUE.same("units of edition 0", building.differ(0), 0);
    DUE.refusesArgument("a bin of edition 0", () -> building.fill(0, 0, 1));
    Due.take(building, "R r 0 0 2 2/B b r 1 0 0 1 1/");
    building.fill(1, 1, 5);
    DUE.same("units of edition 0 behind another", building.differ(0), 0);
    DUE.refusesIndex("what was found", () -> building.moved(0));
    DUE.refusesArgument("a bin of edition 0 behind another", () -> building.fill(0, 1, 1));
  }

  private static void latestIsAsked() {
    BuildingText building = Due.of("R r 0 0 2 2/R s 0 0 2 2/B b r 1 5 5 1 1/P p 3 0/P q 4 0/W p q =/A b p/D d p/");
    Due.take(building, "P x 1 0/P p 3 4/P y 0 0/W x y >/");
    DUE.row("count", building::count, 3, 1, 0, 2, 0);
    DUE.row("place", what -> building.place(1, what), 2, 3, 4, 1, 1, 0, -1, 0);
    DUE.same("p", building.named('p'), 1);
    DUE.same("r", building.named('r'), -1);
    DUE.same("check", building.check(), 2);
    DUE.row("fault", what -> building.fault(1, what), 5, 2, -1);
    DUE.row("piece", what -> building.piece(0, what), 0, 0, 0, 1, -1);
    DUE.refusesArgument("inside", () -> building.inside(2, 0));
    DUE.same("print", building.print(), 5 * 41);
    building.read();
    DUE.row("count", building::count, 0, 0, 0, 3, 0);
    DUE.same("p", building.named('p'), -1);
    DUE.same("check", building.check(), 0);
    DUE.same("print", building.print(), 0);
    DUE.refusesIndex("piece", () -> building.piece(0, 0));
    DUE.refusesArgument("place", () -> building.place(0, 0));
  }

  /** Edition 1 has 8 units in a bin that edition 2 has not; a plan is laid out. */
  private static BuildingText used() {
    BuildingText building = Due.of("R r 0 0 2 1/B b r 1 0 0 1 1/");
    building.fill(1, 1, 8);
    Due.take(building, "R r 0 0 2 1/R s 1 0 3 1/P p 5 0/P q 6 0/W p q >/D d p/");
    building.differ(1);
    building.print();
    return building;
  }

  private static void refusedChangesNothing() {
    for (String lines : new String[] {"x", "R t 0 0 9 9/P z 9 9/D", "P z 9 9/P z 9 9/"}) {
      BuildingText building = used();
      String state = Due.state(building);
      DUE.holds("refused", Due.read(building, lines) < 0);
      DUE.same("state after " + lines, Due.state(building), state);
      DUE.same("units", building.differ(1), 8);
      Due.take(building, "R r 0 0 2 1/");
      DUE.same("the next edition", building.count(3), 3);
    }
  }

  private static void thrownChangesNothing() {
    for (String lines : new String[] {Due.places(61), LINKED + SERVE.repeat(61)}) {
      BuildingText building = Due.of("R x 3 0 2 1/P y 5 0/");
      DUE.same("print", building.print(), 41);
      throwsAtRead(lines, building, lines);
      DUE.row("count", building::count, 2, 0, 0, 1, 0);
      DUE.row("place", what -> building.place(0, what), 0, 3, 0, 2, 1, 0, -1, 0);
      DUE.row("piece", what -> building.piece(0, what), 1, 0, 0, 0, -1);
      DUE.same("y", building.named('y'), 1);
      DUE.same("p", building.named('p'), -1);
      DUE.same("check", building.check(), 0);
      DUE.same("at", building.at(5), '+');
      DUE.refusesArgument("no edition 2", () -> building.differ(2));
    }
    BuildingText full = used();
    for (int edition = 3; edition <= 7; edition++) {
      Due.take(full, "R r 0 0 1 1/");
    }
    String state = Due.state(full);
    throwsAtRead("an eighth edition", full, "P p 0 0/");
    DUE.same("state after an eighth edition", Due.state(full), state);
  }

  /** 511 signs, so that read() is the last of 512 calls. */
  private static void longestText() {
    String lines = PIECES + WAY.repeat(55) + "P aaaa 0 0/P aaab 0 0/P aaac 0 0/P aaad 0 0/";
    DUE.same("signs", lines.length() + 11, 511);
    DUE.same("taken", Due.read(new BuildingText(), lines + "P aaae 0 0/"), 7);
    DUE.same("refused at the last sign", Due.read(new BuildingText(), lines + "P aaae 0 0!"), -511);
    DUE.same("refused at the end", Due.read(new BuildingText(), lines + "P aaae 0 10"), -512);
    throwsAtRead("too many lines", new BuildingText(), PIECES + WAY.repeat(61) + "D d p/");
  }

  private static void mostReads() {
    BuildingText building = fullOfEditions();
    for (int call = 8; call <= 511; call++) {
      DUE.refusesMore("read", building::read);
    }
    DUE.same("the latest edition", building.count(3), 7);
  }
}
