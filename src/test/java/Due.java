/** Compares answers with those that are due, and ends a test with exit code 1 if one differs. */
final class Due {
  private static int wrong = 0;
  private static int seen = 0;

  private Due() {
  }

  static void same(String call, long got, long want) {
    seen++;
    if (got != want) {
      wrong++;
      System.out.println(call + " answered " + got + ", due is " + want);
    }
  }

  static void same(String call, boolean got, boolean want) {
    same(call, got ? 1L : 0L, want ? 1L : 0L);
  }

  /** Puts instructions of four numbers each into the program; each must be taken. */
  static void feed(PowerFailCore core, int... numbers) {
    for (int i = 0; i < numbers.length; i += 4) {
      int answer = core.emit(numbers[i], numbers[i + 1], numbers[i + 2], numbers[i + 3]);
      if (answer < 1) {
        same("emit of a good instruction, number " + i / 4, answer, i / 4 + 1);
      }
    }
  }

  static PowerFailCore program(int... numbers) {
    PowerFailCore core = new PowerFailCore();
    feed(core, numbers);
    return core;
  }

  static void end() {
    System.out.println(seen + " answers, " + wrong + " not as due");
    if (wrong != 0 || seen == 0) {
      System.exit(1);
    }
  }
}
