import java.io.IOException;
import java.lang.reflect.Constructor;
import java.lang.reflect.Field;
import java.lang.reflect.Method;
import java.lang.reflect.Modifier;
import java.nio.charset.StandardCharsets;
import java.nio.file.Files;
import java.nio.file.Path;
import java.util.Arrays;
import java.util.HashSet;
import java.util.Set;
import java.util.TreeSet;

/** The public face, and those rules of LANGUAGE.md that a look at the class or its text can tell. */
public final class FaceTest {
  private static final String[] FACE = {
    "int player(int)", "int make(int, int)", "int ownerOf(int)", "int ownerByPostings(int)",
    "char stateOf(int)", "int cardsOf(int)", "int coinsOf(int)", "int postings()",
    "int posting(int, char)", "int duel(int, int)", "int stake(int, int)", "int start(int)",
    "int play(int, int)", "char endTurn(int)", "char duelState(int)", "int life(int, boolean)",
    "int mana(int)", "int depth(int)", "int winner(int)", "int close(int)", "int snapshot(int)",
    "int inSnapshot(int, int, int)", "int blocks()", "int rollBack(int, int)",
    "int offer(int, int)", "int withdraw(int)", "int buy(int, int)", "char offerState(int)",
    "int house()", "long apart()", "int wonBits()", "double meanPrice()", "boolean isSound()"
  };

  private static final String[] FORBIDDEN = {
    "->", "::", "catch", "finally", "synchronized", "assert ", "volatile", "native", "Float.",
    "Double.", "System.out", "System.in", "System.nano", "System.current", "Thread", "Random",
    "Exact(", "hashCode", "Object ", "static {", "while (true)", "@", "var ", "sealed "
  };

  private static final String[] IMPORTS = {
    "import java.util.ArrayList;", "import java.util.Arrays;",
    "import java.util.NoSuchElementException;"
  };

  public static void main(String[] args) throws IOException {
    methods();
    otherMembers();
    text(Files.readString(Path.of("src/main/java/SnapshotArena.java"), StandardCharsets.UTF_8));
    Check.finish("FaceTest");
  }

  private static void methods() {
    Set<String> publicOnes = new TreeSet<>();
    Set<String> publicNames = new HashSet<>();
    Set<String> privateNames = new HashSet<>();
    for (Method m : SnapshotArena.class.getDeclaredMethods()) {
      if (Modifier.isPublic(m.getModifiers())) {
        publicOnes.add(signature(m));
        publicNames.add(m.getName());
        Check.holds(m + " is not static", !Modifier.isStatic(m.getModifiers()));
      } else {
        privateNames.add(m.getName());
        Check.holds(m + " is private", Modifier.isPrivate(m.getModifiers()));
      }
    }
    Check.sameText("the public methods", publicOnes.toString(),
        new TreeSet<>(Arrays.asList(FACE)).toString());
    privateNames.retainAll(publicNames);
    Check.sameText("private methods with a public one's name", privateNames.toString(), "[]");
  }

  private static String signature(Method m) {
    String text = m.getReturnType() + " " + m.getName() + "(";
    for (int i = 0; i < m.getParameterCount(); i++) {
      text += (i == 0 ? "" : ", ") + m.getParameterTypes()[i];
    }
    return text + ")";
  }

  private static void otherMembers() {
    int type = SnapshotArena.class.getModifiers();
    Check.holds("public and final", Modifier.isPublic(type) && Modifier.isFinal(type));
    Constructor<?>[] constructors = SnapshotArena.class.getDeclaredConstructors();
    Check.same("constructors", constructors.length, 1);
    Check.holds("a public constructor without parameters",
        Modifier.isPublic(constructors[0].getModifiers())
            && constructors[0].getParameterCount() == 0);
    for (Field f : SnapshotArena.class.getDeclaredFields()) {
      Check.holds(f + " is private", Modifier.isPrivate(f.getModifiers()));
      staticIsFinal(f);
    }
    for (Class<?> c : SnapshotArena.class.getDeclaredClasses()) {
      Check.holds(c + " is static and not public",
          Modifier.isStatic(c.getModifiers()) && !Modifier.isPublic(c.getModifiers()));
      for (Field f : c.getDeclaredFields()) {
        staticIsFinal(f);
      }
    }
  }

  private static void staticIsFinal(Field f) {
    Check.holds(f + " is final if static",
        !Modifier.isStatic(f.getModifiers()) || Modifier.isFinal(f.getModifiers()));
  }

  private static void text(String text) {
    String code = text.replaceAll("/\\*(?s:.*?)\\*/", " ").replaceAll("//.*", " ");
    for (String word : FORBIDDEN) {
      Check.holds("the text is without " + word, !code.contains(word));
    }
    for (String line : code.split("\n")) {
      boolean isAllowed = !line.startsWith("import ") || Arrays.asList(IMPORTS).contains(line);
      Check.holds("allowed: " + line, isAllowed && !line.startsWith("package "));
    }
    for (int i = 0; i < text.length(); i++) {
      if (text.charAt(i) < 1 || text.charAt(i) > 127) {
        Check.complain("a sign beyond 127 at " + i);
      }
    }
  }
}
