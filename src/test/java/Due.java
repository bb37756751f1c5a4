/**
 * What every test of the project uses: it runs tests, each of which holds the class to one
 * sentence of the document, and tells the answers that are not as due with that sentence.
 */
final class Due {
  interface Call {
    void run();
  }

  /** All values of what of one row of place(), fault(), piece() or count(). */
  interface Row {
    int of(int what);
  }

  /** Ints that are far off any index, kind or number of the document. */
  static final int[] FAR = {Integer.MIN_VALUE, Integer.MIN_VALUE + 1, -256, 256, 65536, Integer.MAX_VALUE};

  private final String file;
  private String sentence = "";
  private int tests;
  private int asked;
  private int wrong;

  Due(String file) {
    this.file = file;
  }

  /**
   * One test. It stands for the words of the document, where " .. " leaves some out; behind " | "
   * a remark says which case of them it is.
   */
  void test(String where, String words, Call test) {
    int bar = words.indexOf(" | ");
    String quoted = bar < 0 ? words : words.substring(0, bar);
    String remark = bar < 0 ? "" : ", " + words.substring(bar + 3);
    sentence = where + " \"" + quoted + "\"" + remark + ": ";
    tests++;
    try {
      test.run();
    } catch (RuntimeException e) {
      tell("threw " + e + " at " + e.getStackTrace()[0]);
    }
    sentence = "";
  }

  void same(String what, long got, long due) {
    asked++;
    if (got != due) {
      tell(what + " answered " + got + ", due is " + due);
    }
  }

  void same(String what, String got, String due) {
    asked++;
    if (!got.equals(due)) {
      tell(what + " answered\n" + got + "\ndue is\n" + due);
    }
  }

  void holds(String what, boolean got) {
    same(what, got ? 1 : 0, 1);
  }

  void fails(String what, boolean got) {
    same(what, got ? 1 : 0, 0);
  }

  void row(String name, Row row, int... due) {
    for (int what = 0; what < due.length; what++) {
      same(name + " what " + what, row.of(what), due[what]);
    }
  }

  /**
   * The exception's class must be the very one, one below it is wrong too; and the class itself
   * must have thrown it, not the machine or the library.
   */
  void refuses(String what, Class<? extends RuntimeException> due, Call call) {
    asked++;
    try {
      call.run();
    } catch (RuntimeException e) {
      if (e.getClass() != due) {
        tell(what + " threw " + e.getClass().getName() + ", due is " + due.getName());
      } else if (!e.getStackTrace()[0].getClassName().startsWith("BuildingText")) {
        tell(what + " did not throw " + due.getName() + " by itself");
      }
      return;
    }
    tell(what + " threw nothing, due is " + due.getName());
  }

  void refusesArgument(String what, Call call) {
    refuses(what, IllegalArgumentException.class, call);
  }

  void refusesIndex(String what, Call call) {
    refuses(what, IndexOutOfBoundsException.class, call);
  }

  void refusesMore(String what, Call call) {
    refuses(what, UnsupportedOperationException.class, call);
  }

  void end() {
    System.out.println(file + ": " + tests + " tests, " + asked + " asked, " + wrong + " wrong");
    if (wrong != 0) {
      System.exit(1);
    }
  }

  private void tell(String text) {
    wrong++;
    System.out.println(file + ", " + sentence + text);
  }

  /** Texts in the tests end their lines with / instead of sign 10. */
  static String text(String lines) {
    return lines.replace('/', '\n');
  }

  static void sign(BuildingText building, String text) {
    for (int i = 0; i < text.length(); i++) {
      building.sign(text.charAt(i));
    }
  }

  static int read(BuildingText building, String lines) {
    sign(building, text(lines));
    return building.read();
  }

  /** Reads a text that must be taken. */
  static void take(BuildingText building, String lines) {
    int places = read(building, lines);
    if (places < 0) {
      throw new IllegalStateException("refused at " + (-1 - places) + ": " + lines);
    }
  }

  /** A new object with one edition. */
  static BuildingText of(String lines) {
    BuildingText building = new BuildingText();
    take(building, lines);
    return building;
  }

  static int nameCode(String name) {
    int code = 0;
    for (int i = 0; i < name.length(); i++) {
      code = code * 256 + name.charAt(i);
    }
    return code;
  }

  static String laidOut(BuildingText building) {
    int length = building.print();
    StringBuilder plan = new StringBuilder();
    for (int i = 0; i < length; i++) {
      plan.append((char) building.at(i));
    }
    return plan.toString();
  }

  /** A piece p and docks at it, so that the text has so many places in as few signs as can be. */
  static String places(int count) {
    StringBuilder lines = new StringBuilder(count > 0 ? "P p 0 0/" : "");
    for (int i = 1; i < count; i++) {
      lines.append("D ").append(placeName(i)).append(" p/");
    }
    return lines.toString();
  }

  /** The name of place i, 1 and up, of such a text: a, b, .. z without p, then a0, b0, .. */
  static String placeName(int i) {
    String letters = "abcdefghijklmnoqrstuvwxyz";
    String letter = letters.substring((i - 1) % 25, (i - 1) % 25 + 1);
    return i <= 25 ? letter : letter + ((i - 1) / 25 - 1);
  }

  /** All that can be asked without changing anything; only the units in bins are not told. */
  static String state(BuildingText building) {
    StringBuilder state = new StringBuilder();
    addRow(state, "count", building::count, 5);
    for (int i = 0; i < building.count(0); i++) {
      int place = i;
      addRow(state, "place " + i, what -> building.place(place, what), 8);
    }
    for (int i = 0; i < building.check(); i++) {
      int fault = i;
      addRow(state, "fault " + i, what -> building.fault(fault, what), 3);
    }
    for (int what = 0; what < 5; what++) {
      int asked = what;
      addSeries(state, "pieces' " + what, i -> building.piece(i, asked));
    }
    addSeries(state, "moved", building::moved);
    addSeries(state, "at", building::at);
    return state.toString();
  }

  private static void addRow(StringBuilder state, String name, Row row, int end) {
    state.append(name);
    for (int what = 0; what < end; what++) {
      state.append(' ').append(row.of(what));
    }
    state.append('\n');
  }

  /** A series goes as far as its index is not refused. */
  private static void addSeries(StringBuilder state, String name, Row series) {
    state.append(name);
    try {
      for (int i = 0; i < 1000; i++) {
        state.append(' ').append(series.of(i));
      }
    } catch (IndexOutOfBoundsException e) {
      state.append(" and no more\n");
    }
  }
}
