import java.util.HashSet;
import java.util.Set;

/** What the tests share: compares answers, counts those that are wrong, and ends a test. */
final class Check {
  interface Call {
    void run();
  }

  private static final int MOST_PRINTED = 40;
  private static int wrong = 0;
  private static int made = 0;
  private static final Set<String> sentences = new HashSet<>();
  private static String sentence = "";
  private static int madeAtSentence = 0;

  private Check() {}

  /** From here on a sentence of the document is tested; each has one test, and that some checks. */
  static void sentence(String text) {
    endSentence();
    if (!sentences.add(text)) {
      complain("a second test of: " + text);
    }
    sentence = text;
    madeAtSentence = made;
  }

  private static void endSentence() {
    if (!sentence.isEmpty() && made == madeAtSentence) {
      complain("a test without a check");
    }
    sentence = "";
  }

  static void same(String what, long got, long due) {
    made++;
    if (got != due) {
      complain(what + " answered " + got + ", due is " + due);
    }
  }

  static void sameChar(String what, char got, char due) {
    made++;
    if (got != due) {
      complain(what + " answered '" + got + "', due is '" + due + "'");
    }
  }

  static void sameDouble(String what, double got, double due) {
    made++;
    if (Double.doubleToLongBits(got) != Double.doubleToLongBits(due)) {
      complain(what + " answered " + got + ", due is " + due);
    }
  }

  static void sameText(String what, String got, String due) {
    made++;
    if (!got.equals(due)) {
      complain(what + " answered " + got + ", due is " + due);
    }
  }

  /** Of two long texts only the lines that differ are told. */
  private static void sameLines(String what, String got, String due) {
    made++;
    String[] gotLines = got.split("\n");
    String[] dueLines = due.split("\n");
    for (int i = 0; i < Math.min(gotLines.length, dueLines.length); i++) {
      if (!gotLines[i].equals(dueLines[i])) {
        complain(what + " " + gotLines[i] + ", due is " + dueLines[i]);
      }
    }
    if (gotLines.length != dueLines.length) {
      complain(what + " the number of lines");
    }
  }

  static void holds(String what, boolean got) {
    made++;
    if (!got) {
      complain(what + " does not hold");
    }
  }

  /** The call throws just this class, by a throw of SnapshotArena, and changes nothing. */
  static void refuses(SnapshotArena arena, String what, Class<?> due, Call call) {
    made++;
    String ahead = Look.at(arena);
    String got = "nothing";
    try {
      call.run();
    } catch (RuntimeException e) {
      got = nameOf(e);
    }
    if (!got.equals(due.getName())) {
      complain(what + " threw " + got + ", due is " + due.getName());
    }
    sameLines(what + " changes something:", Look.at(arena), ahead);
  }

  /** The name of what was thrown, marked if the machine and not the class has thrown it. */
  static String nameOf(RuntimeException e) {
    StackTraceElement[] trace = e.getStackTrace();
    boolean byClass = trace.length > 0 && trace[0].getClassName().startsWith("SnapshotArena");
    boolean byDivision = e.getMessage() != null && e.getMessage().contains("by zero");
    return byClass && !byDivision ? e.getClass().getName() : "the machine's " + e.getClass().getName();
  }

  static void complain(String text) {
    wrong++;
    if (wrong <= MOST_PRINTED) {
      System.out.println(sentence.isEmpty() ? text : sentence + "\n  " + text);
    }
  }

  static void finish(String test) {
    endSentence();
    String ofSentences = sentences.isEmpty() ? "" : sentences.size() + " sentences, ";
    System.out.println(test + ": " + ofSentences + made + " checks, " + wrong + " wrong");
    if (wrong != 0 || made == 0) {
      System.exit(1);
    }
  }
}
