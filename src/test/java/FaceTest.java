import java.io.IOException;
import java.lang.reflect.Constructor;
import java.lang.reflect.Field;
import java.lang.reflect.Method;
import java.lang.reflect.Modifier;
import java.nio.charset.StandardCharsets;
import java.nio.file.Files;
import java.nio.file.Path;
import java.util.Arrays;
import java.util.HashSet;
import java.util.Set;
import java.util.regex.Matcher;
import java.util.regex.Pattern;

/** The public face, and those rules of LANGUAGE.md that a look at the class or its text can tell. */
public final class FaceTest {
  private static final String[] FACE = {
    "public SnapshotArena()",
    "public int player(int coins) throws IllegalArgumentException, IllegalStateException",
    "public int make(int player, int kind) throws IndexOutOfBoundsException, "
        + "IllegalArgumentException, IllegalStateException",
    "public int ownerOf(int card) throws IndexOutOfBoundsException",
    "public int ownerByPostings(int card) throws IndexOutOfBoundsException",
    "public char stateOf(int card) throws IndexOutOfBoundsException",
    "public int cardsOf(int player) throws IndexOutOfBoundsException",
    "public int coinsOf(int player) throws IndexOutOfBoundsException",
    "public int postings()",
    "public int posting(int index, char what) throws IndexOutOfBoundsException, "
        + "IllegalArgumentException",
    "public int duel(int first, int second) throws IndexOutOfBoundsException, "
        + "IllegalArgumentException, IllegalStateException",
    "public int stake(int duel, int card) throws IndexOutOfBoundsException, "
        + "UnsupportedOperationException, IllegalStateException",
    "public int start(int duel) throws IndexOutOfBoundsException, "
        + "UnsupportedOperationException, IllegalStateException",
    "public int play(int duel, int card) throws IndexOutOfBoundsException, "
        + "UnsupportedOperationException, IllegalStateException",
    "public char endTurn(int duel) throws IndexOutOfBoundsException, "
        + "UnsupportedOperationException",
    "public char duelState(int duel) throws IndexOutOfBoundsException",
    "public int life(int duel, boolean ofSecond) throws IndexOutOfBoundsException",
    "public int mana(int duel) throws IndexOutOfBoundsException, "
        + "UnsupportedOperationException",
    "public int depth(int duel) throws IndexOutOfBoundsException",
    "public int winner(int duel) throws IndexOutOfBoundsException, NoSuchElementException",
    "public int close(int duel) throws IndexOutOfBoundsException, "
        + "UnsupportedOperationException",
    "public int snapshot(int duel) throws IndexOutOfBoundsException, "
        + "UnsupportedOperationException, IllegalStateException",
    "public int inSnapshot(int duel, int snapshot, int place) throws "
        + "IndexOutOfBoundsException",
    "public int blocks()",
    "public int rollBack(int duel, int snapshot) throws IndexOutOfBoundsException, "
        + "UnsupportedOperationException, IllegalStateException",
    "public int offer(int card, int price) throws IndexOutOfBoundsException, "
        + "IllegalArgumentException, IllegalStateException",
    "public int withdraw(int offer) throws IndexOutOfBoundsException, "
        + "UnsupportedOperationException",
    "public int buy(int player, int offer) throws IndexOutOfBoundsException, "
        + "UnsupportedOperationException, IllegalStateException",
    "public char offerState(int offer) throws IndexOutOfBoundsException",
    "public int house()",
    "public long apart()",
    "public int wonBits() throws ArithmeticException",
    "public double meanPrice() throws ArithmeticException",
    "public boolean isSound()"
  };

  private static final String[] FORBIDDEN = {
    "->", "::", "catch", "finally", "synchronized", "assert ", "volatile", "native", "Float.",
    "Double.", "System.out", "System.in", "System.nano", "System.current", "Thread", "Random",
    "Exact(", "hashCode", "Object ", "static {", "while (true)", "@", "var ", "sealed "
  };

  private static final String[] IMPORTS = {
    "import java.util.ArrayList;", "import java.util.Arrays;",
    "import java.util.NoSuchElementException;"
  };

  private static final int MOST_PARAMETERS = 7;
  private static final int MOST_FIELDS = 20;
  private static final int MOST_CLASSES = 12;

  public static void main(String[] args) throws IOException {
    String text =
        Files.readString(Path.of("src/main/java/SnapshotArena.java"), StandardCharsets.UTF_8);
    String code = text.replaceAll("/\\*(?s:.*?)\\*/", " ").replaceAll("//.*", " ");
    declared(code);
    methods();
    otherMembers();
    sizes(SnapshotArena.class);
    for (Class<?> c : SnapshotArena.class.getDeclaredClasses()) {
      sizes(c);
    }
    words(code);
    signs(text);
    Check.finish("FaceTest");
  }

  /** The public members stand in the text as in the document, in its order, exceptions included. */
  private static void declared(String code) {
    Matcher m = Pattern.compile("^  (public [^{]*?)\\s*\\{", Pattern.MULTILINE).matcher(code);
    int found = 0;
    while (m.find()) {
      String due = found < FACE.length ? FACE[found] : "nothing more";
      Check.sameText("a public member", m.group(1).replaceAll("\\s+", " "), due);
      found++;
    }
    Check.same("public members", found, FACE.length);
  }

  private static void methods() {
    int publicOnes = 0;
    Set<String> publicNames = new HashSet<>();
    Set<String> privateNames = new HashSet<>();
    for (Method m : SnapshotArena.class.getDeclaredMethods()) {
      if (Modifier.isPublic(m.getModifiers())) {
        publicOnes++;
        publicNames.add(m.getName());
        Check.holds(m + " is not static", !Modifier.isStatic(m.getModifiers()));
      } else {
        privateNames.add(m.getName());
        Check.holds(m + " is private", Modifier.isPrivate(m.getModifiers()));
      }
    }
    Check.same("public methods, beside the constructor", publicOnes, FACE.length - 1);
    privateNames.retainAll(publicNames);
    Check.sameText("private methods with a public one's name", privateNames.toString(), "[]");
    int classes = SnapshotArena.class.getDeclaredClasses().length;
    Check.holds("few classes", classes < MOST_CLASSES);
  }

  private static void otherMembers() {
    int type = SnapshotArena.class.getModifiers();
    Check.holds("public and final", Modifier.isPublic(type) && Modifier.isFinal(type));
    Constructor<?>[] constructors = SnapshotArena.class.getDeclaredConstructors();
    Check.same("constructors", constructors.length, 1);
    Check.holds("a public constructor without parameters",
        Modifier.isPublic(constructors[0].getModifiers())
            && constructors[0].getParameterCount() == 0);
    for (Field f : SnapshotArena.class.getDeclaredFields()) {
      Check.holds(f + " is private", Modifier.isPrivate(f.getModifiers()));
      staticIsFinal(f);
    }
    for (Class<?> c : SnapshotArena.class.getDeclaredClasses()) {
      Check.holds(c + " is static and not public",
          Modifier.isStatic(c.getModifiers()) && !Modifier.isPublic(c.getModifiers()));
      for (Field f : c.getDeclaredFields()) {
        staticIsFinal(f);
      }
    }
  }

  private static void staticIsFinal(Field f) {
    Check.holds(f + " is final if static",
        !Modifier.isStatic(f.getModifiers()) || Modifier.isFinal(f.getModifiers()));
  }

  private static void sizes(Class<?> c) {
    int fields = 0;
    for (Field f : c.getDeclaredFields()) {
      fields += Modifier.isStatic(f.getModifiers()) ? 0 : 1;
    }
    Check.holds(c + " has few fields", fields <= MOST_FIELDS);
    for (Method m : c.getDeclaredMethods()) {
      Check.holds(m + " has few parameters", m.getParameterCount() <= MOST_PARAMETERS);
    }
  }

  private static void words(String code) {
    for (String word : FORBIDDEN) {
      Check.holds("the text is without " + word, !code.contains(word));
    }
    for (String line : code.split("\n")) {
      boolean isAllowed = !line.startsWith("import ") || Arrays.asList(IMPORTS).contains(line);
      Check.holds("allowed: " + line, isAllowed && !line.startsWith("package "));
    }
  }

  private static void signs(String text) {
    for (int i = 0; i < text.length(); i++) {
      if (text.charAt(i) < 1 || text.charAt(i) > 127) {
        Check.complain("a sign beyond 127 at " + i);
      }
    }
  }
}
