import java.io.IOException;
import java.lang.reflect.Method;
import java.lang.reflect.Modifier;
import java.nio.charset.StandardCharsets;
import java.nio.file.DirectoryStream;
import java.nio.file.Files;
import java.nio.file.Path;

/** README.md: its run answers as it says, and it names each call and each test. */
public final class ReadmeTest {
  public static void main(String[] args) throws IOException {
    String readme = read("README.md");
    answers();
    Check.sameText("the run that README.md shows", runIn(readme, "```java\n", "```"),
        runIn(read("src/test/java/ReadmeTest.java"), "    // the run\n", "    // its end\n"));
    for (Method m : SnapshotArena.class.getDeclaredMethods()) {
      if (Modifier.isPublic(m.getModifiers())) {
        Check.holds("it names " + m.getName(), readme.contains("`" + m.getName() + "("));
      }
    }
    try (DirectoryStream<Path> tests = Files.newDirectoryStream(Path.of("src/test/java"))) {
      for (Path test : tests) {
        String name = test.getFileName().toString().replace(".java", "");
        Check.holds("it names " + name, readme.contains("`" + name + "`"));
      }
    }
    Check.finish("ReadmeTest");
  }

  private static String read(String path) throws IOException {
    return Files.readString(Path.of(path), StandardCharsets.UTF_8);
  }

  /** The lines between two marks, without those that check and without their indent. */
  private static String runIn(String text, String mark, String end) {
    int from = text.indexOf(mark) + mark.length();
    StringBuilder run = new StringBuilder();
    for (String line : text.substring(from, text.indexOf(end, from)).split("\n")) {
      if (!line.trim().startsWith("Check.")) {
        run.append(line.trim()).append('\n');
      }
    }
    return run.toString();
  }

  /** What README.md shows, line by line, with checks of what it says there. */
  private static void answers() {
    // the run
    SnapshotArena arena = new SnapshotArena();
    int ann = arena.player(100);
    int bob = arena.player(50);
    int hers = arena.make(ann, 12);        // hurts by 4, costs nothing
    int his = arena.make(bob, 0);          // hurts by 1, costs nothing
    int duel = arena.duel(ann, bob);       // 'o': both may stake
    Check.sameChar("opened", arena.duelState(duel), 'o');
    arena.stake(duel, hers);
    arena.stake(duel, his);
    arena.start(duel);                     // 'g': Ann has the turn
    Check.sameChar("started", arena.duelState(duel), 'g');
    int snapshot = arena.snapshot(duel);
    arena.play(duel, hers);
    Check.same("mana, as it costs nothing", arena.mana(duel), 1);
    arena.endTurn(duel);                   // 'g': Bob has the life 6, and the turn
    Check.same("Bob's life", arena.life(duel, true), 6);
    Check.sameChar("goes on", arena.duelState(duel), 'g');
    arena.play(duel, his);
    Check.same("mana, as this costs nothing either", arena.mana(duel), 1);
    arena.endTurn(duel);                   // 'e': Ann has more life and wins both cards
    Check.sameChar("ended", arena.duelState(duel), 'e');
    Check.same("Ann's life", arena.life(duel, false), 9);
    Check.same("the winner", arena.winner(duel), ann);
    Check.same("Ann's cards", arena.cardsOf(ann), 2);
    int offer = arena.offer(his, 20);      // Ann sells what she won of Bob
    arena.buy(bob, offer);                 // the 20 coins are kept apart
    Check.same("apart", arena.apart(), 20);
    Check.same("Bob's coins", arena.coinsOf(bob), 30);
    arena.rollBack(duel, snapshot);        // 1 sale is undone, and the duel goes on
    Check.sameChar("the sale", arena.offerState(offer), 'g');
    Check.same("Bob's coins again", arena.coinsOf(bob), 50);
    Check.sameChar("goes on again", arena.duelState(duel), 'g');
    arena.play(duel, hers);
    arena.endTurn(duel);
    arena.play(duel, his);
    arena.endTurn(duel);                   // 'e' once more
    Check.sameChar("ended again", arena.duelState(duel), 'e');
    arena.buy(bob, arena.offer(his, 20));
    arena.close(duel);                     // 'f': Ann gets 18 coins, the house 2
    // its end
    Check.sameChar("closed", arena.duelState(duel), 'f');
    Check.same("Ann's coins", arena.coinsOf(ann), 118);
    Check.same("the house's coins", arena.house(), 2);
    Check.same("the owner of Bob's card", arena.ownerOf(his), bob);
  }
}
