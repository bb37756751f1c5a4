import java.util.ArrayList;
import java.util.List;
import java.util.Random;

/**
 * All promises: random runs, from fixed seeds, are compared with the plain model. An object gets
 * more than 512 calls here: the class knows no such limit, and long texts meet in one object.
 */
public final class ModelTest {
  private static final Due DUE = new Due("ModelTest");
  private static final String SIGNS = "RBPWDSCEA  \n\n\n01239abcpqz=>x#";
  private static final int RUNS = 600;

  private final Random random;
  private final BuildingText building = new BuildingText();
  private final List<Model> editions = new ArrayList<>();
  private final String run;
  private String text = "";

  private ModelTest(int seed) {
    random = new Random(seed);
    run = "run " + seed + " ";
    editions.add(new Model(""));
  }

  public static void main(String[] args) {
    DUE.test("all promises", "each text that is read is an edition of the whole building | random ones", ModelTest::playAll);
    DUE.end();
  }

  private static void playAll() {
    int taken = 0;
    for (int seed = 0; seed < RUNS; seed++) {
      ModelTest test = new ModelTest(seed);
      test.play();
      taken += test.editions.size() - 1;
    }
    DUE.holds("many texts were taken: " + taken, taken > RUNS);
  }

  private void play() {
    for (int i = 0; i < 6; i++) {
      text = random.nextInt(3) == 0 ? spoilt(variant()) : variant();
      read();
      compare();
      fillSome();
      differ(random.nextInt(editions.size()));
    }
  }

  private Model latest() {
    return editions.get(editions.size() - 1);
  }

  private void read() {
    Model model = new Model(text);
    Due.sign(building, text);
    if (model.refused < 0 && model.isTooLarge()) {
      DUE.refuses(run + text, UnsupportedOperationException.class, building::read);
      return;
    }
    DUE.same(run + "read of " + text, building.read(),
        model.refused < 0 ? model.spots.size() : -1 - model.refused);
    if (model.refused < 0) {
      model.measure();
      editions.add(model);
    }
  }

  private void compare() {
    Model model = latest();
    DUE.row(run + "count", building::count, model.spots.size(), model.ways.size(),
        model.serves.size(), editions.size() - 1, 0, -1);
    int pieces = 0;
    for (int i = 0; i < model.spots.size(); i++) {
      int place = i;
      Model.Spot s = model.spots.get(i);
      DUE.row(run + "place " + i, what -> building.place(place, what),
          s.kind, s.x, s.y, s.w, s.h, s.level, s.base, s.lines);
      DUE.same(run + s.name, building.named(Due.nameCode(s.name)), i);
      if (s.kind == 2) {
        int piece = pieces++;
        DUE.row(run + "piece " + i, what -> building.piece(piece, what), model.pieceRow(i));
      }
      compareInside(i);
    }
    List<int[]> faults = model.faults();
    DUE.same(run + "check of " + text, building.check(), faults.size());
    for (int i = 0; i < Math.min(faults.size(), building.check()); i++) {
      int fault = i;
      DUE.row(run + "fault " + i, what -> building.fault(fault, what), faults.get(i));
    }
    DUE.same(run + "plan of " + text, Due.laidOut(building), model.plan());
  }

  private void compareInside(int bin) {
    for (int rack = 0; rack < latest().spots.size(); rack++) {
      Model.Spot inner = latest().spots.get(bin);
      Model.Spot outer = latest().spots.get(rack);
      int other = rack;
      if (inner.kind == 1 && outer.kind == 0) {
        DUE.same(run + "inside", building.inside(bin, rack) ? 1 : 0,
            Model.isWithin(inner, outer) ? 1 : 0);
      } else {
        DUE.refuses(run + "inside", IllegalArgumentException.class,
            () -> building.inside(bin, other));
      }
    }
  }

  private void fillSome() {
    int edition = random.nextInt(editions.size());
    Model model = editions.get(edition);
    for (int i = 0; i < model.spots.size(); i++) {
      int place = i;
      int units = random.nextInt(100);
      if (model.spots.get(i).kind == 1) {
        building.fill(edition, i, units);
        model.spots.get(i).units = units;
      } else {
        DUE.refuses(run + "fill", IllegalArgumentException.class,
            () -> building.fill(edition, place, units));
      }
    }
  }

  private void differ(int edition) {
    Model model = editions.get(edition);
    List<Integer> moved = model.movedTo(latest());
    int units = 0;
    for (int bin : moved) {
      units += model.spots.get(bin).units;
    }
    DUE.same(run + "differ", building.differ(edition), units);
    for (int i = 0; i < moved.size(); i++) {
      DUE.same(run + "moved", building.moved(i), moved.get(i));
    }
    DUE.refuses(run + "moved", IndexOutOfBoundsException.class, () -> building.moved(moved.size()));
  }

  /** A new text, or the last one with one line more or less. */
  private String variant() {
    if (new Model(text).refused >= 0 || random.nextInt(3) == 0) {
      return randomText(random.nextInt(10) == 0 ? 150 : 5 + random.nextInt(30));
    }
    int cut = text.isEmpty() ? 0 : text.indexOf('\n', random.nextInt(text.length())) + 1;
    String longer = text.substring(0, cut) + randomLine(new Model(text.substring(0, cut)))
        + text.substring(cut);
    return new Model(longer).refused < 0 ? longer : text;
  }

  private String randomText(int tries) {
    StringBuilder built = new StringBuilder("P p 3 3\n");
    for (int i = 0; i < tries; i++) {
      String line = randomLine(new Model(built.toString()));
      if (new Model(built + line).refused < 0) {
        built.append(line);
      }
    }
    return built.toString();
  }

  private String randomLine(Model model) {
    char type = "RRBBBBPPPPPWWWWWWDSCEEAAA".charAt(random.nextInt(25));
    String name = " " + (char) ('a' + random.nextInt(26)) + (random.nextBoolean() ? random.nextInt(20) : "");
    String area = number(14) + number(8) + number(6) + number(6);
    switch (type) {
      case 'R': return "R" + name + area + "\n";
      case 'B': return "B" + name + used(model, 0) + number(4) + area + "\n";
      case 'P': return "P" + name + number(14) + number(8) + "\n";
      case 'W': return "W" + used(model, 2) + used(model, 2) + (random.nextBoolean() ? " =" : " >") + "\n";
      case 'A': return "A" + used(model, 1) + used(model, 2) + "\n";
      case 'E': return "E" + name + used(model, 2).repeat(random.nextInt(2)) + used(model, 2)
          + (random.nextBoolean() ? used(model, 2) : "") + used(model, 2) + "\n";
      default: return type + name + used(model, 2) + "\n";
    }
  }

  private String number(int bound) {
    return " " + random.nextInt(random.nextInt(40) == 0 ? 60 : bound);
  }

  private String used(Model model, int kind) {
    List<String> fitting = new ArrayList<>();
    for (Model.Spot spot : model.spots) {
      if (spot.kind == kind) {
        fitting.add(spot.name);
      }
    }
    return " " + (fitting.isEmpty() ? "x" : fitting.get(random.nextInt(fitting.size())));
  }

  private String spoilt(String sound) {
    int place = random.nextInt(sound.length() + 1);
    int next = Math.min(place + random.nextInt(2), sound.length());
    String sign = random.nextBoolean() ? "" : "" + SIGNS.charAt(random.nextInt(SIGNS.length()));
    return random.nextInt(4) == 0
        ? sound.substring(0, place)
        : sound.substring(0, place) + sign + sound.substring(next);
  }
}
