/** What every test of the project uses: it counts answers and tells those that are not as due. */
final class Due {
  interface Call {
    void run();
  }

  private final String test;
  private int asked;
  private int wrong;

  Due(String test) {
    this.test = test;
  }

  void same(String what, long got, long due) {
    asked++;
    if (got != due) {
      tell(what + " answered " + got + ", due is " + due);
    }
  }

  void same(String what, String got, String due) {
    asked++;
    if (!got.equals(due)) {
      tell(what + " answered\n" + got + "\ndue is\n" + due);
    }
  }

  void holds(String what, boolean got) {
    same(what, got ? 1 : 0, 1);
  }

  /**
   * The exception's class must be the very one, one below it is wrong too; and the class itself
   * must have thrown it, not the machine or the library.
   */
  void refuses(String what, Class<? extends RuntimeException> due, Call call) {
    asked++;
    try {
      call.run();
    } catch (RuntimeException e) {
      if (e.getClass() != due) {
        tell(what + " threw " + e.getClass().getName() + ", due is " + due.getName());
      } else if (!e.getStackTrace()[0].getClassName().startsWith("BuildingText")) {
        tell(what + " did not throw " + due.getName() + " by itself");
      }
      return;
    }
    tell(what + " threw nothing, due is " + due.getName());
  }

  /** All values of what below some bound, of a row of place(), fault() or piece(). */
  interface Row {
    int of(int what);
  }

  void row(String name, Row row, int... due) {
    for (int what = 0; what < due.length; what++) {
      same(name + " what " + what, row.of(what), due[what]);
    }
  }

  void end() {
    System.out.println(test + ": " + asked + " asked, " + wrong + " wrong");
    if (wrong != 0) {
      System.exit(1);
    }
  }

  private void tell(String text) {
    wrong++;
    System.out.println(test + ": " + text);
  }

  static void sign(BuildingText building, String text) {
    for (int i = 0; i < text.length(); i++) {
      building.sign(text.charAt(i));
    }
  }

  static int read(BuildingText building, String text) {
    sign(building, text);
    return building.read();
  }

  /** A new object with one edition; its texts end their lines with / instead of sign 10. */
  static BuildingText of(String lines) {
    BuildingText building = new BuildingText();
    int places = read(building, lines.replace('/', '\n'));
    if (places < 0) {
      throw new IllegalStateException("refused at " + (-1 - places) + ": " + lines);
    }
    return building;
  }

  static int nameCode(String name) {
    int code = 0;
    for (int i = 0; i < name.length(); i++) {
      code = code * 256 + name.charAt(i);
    }
    return code;
  }

  static String laidOut(BuildingText building) {
    int length = building.print();
    StringBuilder plan = new StringBuilder();
    for (int i = 0; i < length; i++) {
      plan.append((char) building.at(i));
    }
    return plan.toString();
  }
}
