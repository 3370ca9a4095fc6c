import java.util.HashSet;
import java.util.Set;

/** The boundary cases of snapshots and rollbacks: a test for each sentence that names one. */
public final class BoundarySnapshotsTest extends Scene {
  private static final int[] EIGHT_FREE = {6, 9, 15, 0, 12, 3, 6, 9};

  public static void main(String[] args) {
    snapshots();
    numbers();
    blocks();
    rollBacks();
    rollBacksOfTheEnd();
    rollBacksOfSales();
    rollBacksRefused();
    Check.finish("BoundarySnapshotsTest");
  }

  private static void snapshotIs(SnapshotArena x, int snapshot, int... due) {
    Check.same("numbers", due.length, 24);
    for (int place = 0; place < due.length; place++) {
      Check.same("snapshot " + snapshot + " at " + place, x.inSnapshot(0, snapshot, place),
          due[place]);
    }
  }

  // ---- snapshot

  private static void snapshots() {
    snapshotOfNoDuel();
    snapshotWhereNothingGoesOn();
    sixSnapshots();
    snapshotsByDuel();
  }

  private static void snapshotOfNoDuel() {
    Check.sentence("Promise 22: Throws `IndexOutOfBoundsException` if there is no such duel");
    SnapshotArena none = withPlayers(2);
    refuses(none, "snapshot of duel 0 of none", INDEX, () -> none.snapshot(0));
    SnapshotArena x = started(kinds(0), kinds(0));
    refusesOutside(x, "snapshot", 1, INDEX, x::snapshot);
    Check.same("the first snapshot after all that", x.snapshot(0), 0);
  }

  private static void snapshotWhereNothingGoesOn() {
    Check.sentence("Promise 22: Throws `UnsupportedOperationException` if the duel does not go on");
    SnapshotArena open = staked(kinds(0), kinds(0));
    refuses(open, "snapshot of an open duel", UNSUPPORTED, () -> open.snapshot(0));
    SnapshotArena x = wonByFirst();
    refuses(x, "snapshot of an ended duel", UNSUPPORTED, () -> x.snapshot(0));
    x.rollBack(0, 0);
    Check.same("snapshot of a duel that goes on again", x.snapshot(0), 1);
    SnapshotArena drawn = wonByNobody();
    refuses(drawn, "snapshot of a duel that nobody won", UNSUPPORTED, () -> drawn.snapshot(0));
    drawn.close(0);
    refuses(drawn, "snapshot of a final duel", UNSUPPORTED, () -> drawn.snapshot(0));
  }

  private static void sixSnapshots() {
    Check.sentence("Promise 22: Throws `IllegalStateException` if it has 6");
    SnapshotArena x = started(kinds(0), kinds(0));
    for (int snapshot = 0; snapshot < 5; snapshot++) {
      Check.same("snapshot", x.snapshot(0), snapshot);
    }
    x.endTurn(0);
    Check.same("the 6th snapshot", x.snapshot(0), 5);
    refuses(x, "a 7th snapshot", STATE, () -> x.snapshot(0));
    x.endTurn(0);
    refuses(x, "a 7th snapshot a turn later", STATE, () -> x.snapshot(0));
    x.rollBack(0, 5);
    refuses(x, "a 7th snapshot after a rollback to the 6th", STATE, () -> x.snapshot(0));
    x.rollBack(0, 4);
    Check.same("the 6th snapshot again", x.snapshot(0), 5);
    refuses(x, "a 7th snapshot again", STATE, () -> x.snapshot(0));
  }

  private static void snapshotsByDuel() {
    Check.sentence("Terms: At most 6 snapshots of a duel that goes on are numbered from 0, by duel.");
    SnapshotArena x = withPlayers(6);
    for (int duel = 0; duel < 3; duel++) {
      x.duel(2 * duel, 2 * duel + 1);
      x.stake(duel, x.make(2 * duel, 0));
      x.stake(duel, x.make(2 * duel + 1, 0));
      x.start(duel);
    }
    for (int snapshot = 0; snapshot < 6; snapshot++) {
      for (int duel = 0; duel < 3; duel++) {
        Check.same("snapshot of duel " + duel, x.snapshot(duel), snapshot);
      }
    }
    for (int d = 0; d < 3; d++) {
      int duel = d;
      refuses(x, "a 7th snapshot of duel " + duel, STATE, () -> x.snapshot(duel));
    }
    x.rollBack(1, 0);
    refuses(x, "a 7th of duel 0 when duel 1 is rolled back", STATE, () -> x.snapshot(0));
    Check.same("snapshot of duel 1 then", x.snapshot(1), 1);
  }

  // ---- inSnapshot

  private static void numbers() {
    noSuchDuelSnapshotOrPlace();
    firstNumbers();
    playedCardsAtEachPlace();
    orderOfStaking();
    stackOfEachDepth();
    effectsOfTheSecond();
    snapshotDoesNotChange();
  }

  private static void noSuchDuelSnapshotOrPlace() {
    Check.sentence("Promise 23: Throws `IndexOutOfBoundsException` if there is no such duel, snapshot "
        + "or place");
    SnapshotArena x = started(kinds(0), kinds(0));
    refuses(x, "snapshot 0 of none", INDEX, () -> x.inSnapshot(0, 0, 0));
    x.snapshot(0);
    x.snapshot(0);
    refusesOutside(x, "duel", 1, INDEX, duel -> x.inSnapshot(duel, 0, 0));
    refusesOutside(x, "snapshot", 2, INDEX, snapshot -> x.inSnapshot(0, snapshot, 0));
    refusesOutside(x, "place", 24, INDEX, place -> x.inSnapshot(0, 1, place));
    refusesOutside(x, "place of the first snapshot", 24, INDEX, p -> x.inSnapshot(0, 0, p));
    Check.same("place 0", x.inSnapshot(0, 0, 0), 10);
    Check.same("place 23", x.inSnapshot(0, 1, 23), -1);
    SnapshotArena two = withPlayers(4);
    endedDuel(two, 0, 1);
    two.duel(2, 3);
    refuses(two, "a snapshot of another duel", INDEX, () -> two.inSnapshot(1, 0, 0));
  }

  private static void firstNumbers() {
    Check.sentence("Terms: the life of the first and of the second one, the mana, the turns ended");
    SnapshotArena x = started(
        kinds(HEAL_3_FREE, HEAL_3_FREE, HEAL_3_FREE, HEAL_3_FREE, HEAL_1_COST_1, HURT_4_FREE,
            HURT_4_FREE, HURT_1_FREE), kinds(HEAL_1_COST_1, HURT_1_FREE));
    x.snapshot(0);
    playAll(x, 0, 1, 2, 3, 5, 6, 7);
    x.endTurn(0);
    x.snapshot(0);
    x.play(0, 8);
    x.snapshot(0);
    endTurns(x, 0, 11);
    x.snapshot(0);
    int[][] due = {{10, 10, 1, 0}, {20, 1, 1, 1}, {20, 1, 0, 1}, {20, 2, 6, 12}};
    for (int snapshot = 0; snapshot < due.length; snapshot++) {
      for (int place = 0; place < 4; place++) {
        Check.same("snapshot " + snapshot + " at " + place, x.inSnapshot(0, snapshot, place),
            due[snapshot][place]);
      }
    }
  }

  private static void playedCardsAtEachPlace() {
    Check.sentence("Terms: 16 for the staked cards [..] each 1 if it was played, 0 if not or if there "
        + "is none at this place, those of the second one from the 9th of these on");
    for (int count = 0; count <= 8; count++) {
      playedIs(EIGHT_FREE, EIGHT_FREE, count, 0);
      playedIs(EIGHT_FREE, EIGHT_FREE, 8, count);
      playedIs(EIGHT_FREE, EIGHT_FREE, 0, count);
    }
    playedIs(kinds(HURT_1_FREE), EIGHT_FREE, 1, 7);
    playedIs(EIGHT_FREE, kinds(HURT_1_FREE), 7, 1);
    playedIs(kinds(HURT_1_FREE), kinds(HURT_1_FREE), 1, 1);
  }

  /** So many cards of each are played, from the first one on, and a snapshot is made. */
  private static void playedIs(int[] first, int[] second, int ofFirst, int ofSecond) {
    SnapshotArena x = started(first, second);
    for (int i = 0; i < ofFirst; i++) {
      x.play(0, i);
    }
    if (ofSecond > 0) {
      x.endTurn(0);
    }
    for (int i = 0; i < ofSecond; i++) {
      x.play(0, first.length + i);
    }
    x.snapshot(0);
    for (int i = 0; i < 8; i++) {
      Check.same("card " + i + " of the first", x.inSnapshot(0, 0, 4 + i), i < ofFirst ? 1 : 0);
      Check.same("card " + i + " of the second", x.inSnapshot(0, 0, 12 + i), i < ofSecond ? 1 : 0);
    }
  }

  private static void orderOfStaking() {
    Check.sentence("Terms: first those of the first player in the order in which they were staked");
    SnapshotArena x = withPlayers(4);
    x.duel(3, 2);
    for (int card = 0; card < 6; card++) {
      x.make(card < 3 ? 2 : 3, HURT_1_FREE);
    }
    for (int card : new int[] {2, 4, 0, 5, 3, 1}) {
      x.stake(0, card);
    }
    x.start(0);
    x.play(0, 3);
    x.snapshot(0);
    x.endTurn(0);
    x.play(0, 1);
    x.play(0, 2);
    x.snapshot(0);
    snapshotIs(x, 0, 10, 10, 1, 0, 0, 0, 1, 0, 0, 0, 0, 0, 0, 0, 0, 0, 0, 0, 0, 0, 1, 1, -1, -1);
    snapshotIs(x, 1, 10, 9, 1, 1, 0, 0, 1, 0, 0, 0, 0, 0, 1, 0, 1, 0, 0, 0, 0, 0, 2, 101, 101, -1);
  }

  private static void stackOfEachDepth() {
    Check.sentence("Terms: 4 for the depth of the stack and its last three effects, the last one "
        + "first, [..] -1 for none");
    int[] effects = {22, 13, 34, 1, 4, 31, 22, 13};
    for (int depth = 0; depth <= 8; depth++) {
      SnapshotArena x = started(EIGHT_FREE, kinds(0));
      for (int card = 0; card < depth; card++) {
        x.play(0, card);
      }
      x.snapshot(0);
      Check.same("the depth", x.inSnapshot(0, 0, 20), depth);
      for (int i = 1; i <= 3; i++) {
        Check.same("effect " + i + " from the last of " + depth, x.inSnapshot(0, 0, 20 + i),
            depth - i >= 0 ? effects[depth - i] : -1);
      }
      x.endTurn(0);
      x.snapshot(0);
      Check.same("the depth after the turn", x.inSnapshot(0, 1, 20), 0);
      for (int i = 1; i <= 3; i++) {
        Check.same("effect " + i + " after the turn", x.inSnapshot(0, 1, 20 + i), -1);
      }
    }
  }

  private static void effectsOfTheSecond() {
    Check.sentence("Terms: each 100 times the player, 0 or 1, plus 10 times the effect, plus the "
        + "power");
    int[] effectAndPower = {1, 11, 21, 31, 2, 12, 22, 32, 3, 13, 23, 33, 4, 14, 24, 34};
    for (int kind = 0; kind < 16; kind++) {
      SnapshotArena x = started(kinds(kind), kinds(kind));
      endTurns(x, 0, 2);
      x.play(0, 0);
      x.snapshot(0);
      Check.same("kind " + kind + " of the first", x.inSnapshot(0, 0, 21), effectAndPower[kind]);
      x.endTurn(0);
      endTurns(x, 0, 2);
      x.play(0, 1);
      x.snapshot(0);
      Check.same("kind " + kind + " of the second", x.inSnapshot(0, 1, 21),
          100 + effectAndPower[kind]);
    }
  }

  private static void snapshotDoesNotChange() {
    Check.sentence("Terms: A snapshot keeps the state (whatever comes later)");
    SnapshotArena x = started(kinds(HURT_4_FREE, HEAL_3_FREE), kinds(HURT_1_FREE));
    x.play(0, 0);
    x.snapshot(0);
    int[] due = {10, 10, 1, 0, 1, 0, 0, 0, 0, 0, 0, 0, 0, 0, 0, 0, 0, 0, 0, 0, 1, 4, -1, -1};
    snapshotIs(x, 0, due);
    x.play(0, 1);
    snapshotIs(x, 0, due);
    x.endTurn(0);
    x.play(0, 2);
    x.snapshot(0);
    snapshotIs(x, 0, due);
    x.endTurn(0);
    Check.sameChar("ended", x.duelState(0), 'e');
    snapshotIs(x, 0, due);
    x.rollBack(0, 0);
    snapshotIs(x, 0, due);
    playAll(x, 1);
    x.endTurn(0);
    x.play(0, 2);
    x.endTurn(0);
    x.close(0);
    snapshotIs(x, 0, due);
  }

  // ---- blocks

  private static void blocks() {
    noBlocks();
    blocksOfOneSnapshot();
    blocksAtWhateverPlace();
    blocksOfWhateverDuel();
    unlikeBlocks();
    blocksThatGo();
    blocksAfterTheEnd();
    blocksOfManySnapshots();
  }

  private static void noBlocks() {
    Check.sentence("Promise 24: Returns how many unlike blocks are kept (none at first)");
    SnapshotArena x = new SnapshotArena();
    Check.same("a new object", x.blocks(), 0);
    SnapshotArena started = started(kinds(0), kinds(0));
    Check.same("without a snapshot", started.blocks(), 0);
    endTurns(started, 0, 1);
    Check.same("without a snapshot, a turn later", started.blocks(), 0);
  }

  private static void blocksOfOneSnapshot() {
    Check.sentence("Terms: It keeps it in 6 blocks of 4 numbers");
    SnapshotArena x = started(EIGHT_FREE, EIGHT_FREE);
    x.snapshot(0);
    Check.same("four of the six are alike", x.blocks(), 3);
    SnapshotArena y = started(EIGHT_FREE, EIGHT_FREE);
    y.play(0, 0);
    y.play(0, 6);
    y.endTurn(0);
    y.play(0, 8);
    y.play(0, 9);
    y.play(0, 12);
    y.play(0, 13);
    y.play(0, 15);
    y.snapshot(0);
    // Lives; 1000, 0010, 1100, 1101 of the cards; the stack.
    Check.same("all six are unlike", y.blocks(), 6);
  }

  private static void blocksAtWhateverPlace() {
    Check.sentence("Terms: a block that is as some block that is kept, of whatever [..] place, is "
        + "that one");
    SnapshotArena x = started(new int[] {0, 0, 0, 0, 0, 0, 0, 0}, new int[] {6, 6, 6, 6, 6, 6, 6, 6});
    x.play(0, 1);
    x.snapshot(0);
    Check.same("lives, no cards, the 2nd card, the stack", x.blocks(), 4);
    x.play(0, 5);
    x.snapshot(0);
    Check.same("the 6th card is as the 2nd", x.blocks(), 5);
    x.endTurn(0);
    playAll(x, 9);
    x.snapshot(0);
    Check.same("the second one's 2nd card too; lives and stack are new", x.blocks(), 7);
    playAll(x, 13);
    x.snapshot(0);
    Check.same("the second one's 6th card too; the stack is new", x.blocks(), 8);
    SnapshotArena lives = started(kinds(HURT_1_FREE, HURT_1_FREE), kinds(HURT_1_FREE));
    playAll(lives, 0, 1);
    lives.snapshot(0);
    Check.same("lives, 1100, 0000, stack", lives.blocks(), 4);
  }

  private static void blocksOfWhateverDuel() {
    Check.sentence("Terms: a block that is as some block that is kept, of whatever duel");
    SnapshotArena x = withPlayers(6);
    for (int duel = 0; duel < 3; duel++) {
      x.duel(2 * duel, 2 * duel + 1);
      x.stake(duel, x.make(2 * duel, HURT_1_FREE));
      x.stake(duel, x.make(2 * duel + 1, HURT_1_FREE));
      x.start(duel);
      x.snapshot(duel);
      Check.same("like snapshots of " + (duel + 1) + " duels", x.blocks(), 3);
    }
    x.play(2, 4);
    x.snapshot(2);
    Check.same("a card played, and its stack", x.blocks(), 5);
    x.play(0, 0);
    x.snapshot(0);
    Check.same("the same in another duel", x.blocks(), 5);
    x.rollBack(2, 0);
    Check.same("kept by the other duel", x.blocks(), 5);
    x.rollBack(0, 0);
    Check.same("kept by none", x.blocks(), 3);
  }

  private static void unlikeBlocks() {
    Check.sentence("Promise 24: Returns how many unlike blocks (unlike in one number, at each place)");
    for (int card = 0; card < 4; card++) {
      SnapshotArena x = started(EIGHT_FREE, kinds(0));
      x.snapshot(0);
      x.play(0, card);
      x.snapshot(0);
      Check.same("card " + card + " and the stack", x.blocks(), 5);
    }
    SnapshotArena x = started(kinds(HEAL_1_COST_1, HEAL_3_FREE), kinds(HURT_1_FREE, HURT_4_FREE));
    x.snapshot(0);
    x.endTurn(0);
    x.snapshot(0);
    Check.same("the turns", x.blocks(), 4);
    x.endTurn(0);
    x.snapshot(0);
    Check.same("the turns and the mana", x.blocks(), 5);
    x.play(0, 0);
    x.snapshot(0);
    Check.same("the mana alone, a card, and the stack", x.blocks(), 8);
  }

  private static void blocksThatGo() {
    Check.sentence("Promise 24: kept by snapshots that are there");
    SnapshotArena x = started(new int[] {0, 0, 0, 0, 0, 0, 0, 0}, kinds(0));
    int[] due = new int[6];
    for (int snapshot = 0; snapshot < 6; snapshot++) {
      x.snapshot(0);
      due[snapshot] = x.blocks();
      Check.same("blocks by counting them", due[snapshot], countBlocks(x, 1));
      x.play(0, snapshot);
    }
    Check.same("blocks of six", due[5], 3 + 2 + 2 + 2 + 2 + 1);
    for (int snapshot = 5; snapshot >= 0; snapshot--) {
      x.rollBack(0, snapshot);
      Check.same("blocks when rolled back to " + snapshot, x.blocks(), due[snapshot]);
      Check.same("blocks by counting them", due[snapshot], countBlocks(x, 1));
    }
    x.endTurn(0);
    x.snapshot(0);
    Check.same("another block in the room of one that is gone", x.blocks(), 4);
    Check.same("blocks by counting them", 4, countBlocks(x, 1));
  }

  private static void blocksAfterTheEnd() {
    Check.sentence("Promise 24: kept by snapshots that are there (of a duel that ended, or is final)");
    SnapshotArena x = started(kinds(HURT_1_FREE), kinds(HURT_1_FREE));
    x.snapshot(0);
    x.play(0, 0);
    x.snapshot(0);
    x.endTurn(0);
    x.play(0, 1);
    x.endTurn(0);
    Check.same("ended", x.blocks(), 5);
    x.rollBack(0, 1);
    Check.same("rolled back to the last one", x.blocks(), 5);
    x.endTurn(0);
    x.play(0, 1);
    x.endTurn(0);
    x.close(0);
    Check.same("final", x.blocks(), 5);
    Check.same("the snapshots are there", countBlocks(x, 1), 5);
  }

  /** The unlike blocks of all snapshots, by looking at each number. */
  private static int countBlocks(SnapshotArena x, int duels) {
    Set<String> unlike = new HashSet<>();
    for (int duel = 0; duel < duels; duel++) {
      for (int snapshot = 0; snapshot < 6; snapshot++) {
        addBlocks(x, duel, snapshot, unlike);
      }
    }
    return unlike.size();
  }

  private static void addBlocks(SnapshotArena x, int duel, int snapshot, Set<String> unlike) {
    try {
      for (int block = 0; block < 6; block++) {
        String text = "";
        for (int i = 0; i < 4; i++) {
          text += x.inSnapshot(duel, snapshot, 4 * block + i) + " ";
        }
        unlike.add(text);
      }
    } catch (IndexOutOfBoundsException e) {
      // There is no such snapshot.
      return;
    }
  }

  private static void blocksOfManySnapshots() {
    Check.sentence("Promise 24: blocks snapshots have in all (three duels with 6 snapshots each)");
    SnapshotArena x = withPlayers(6);
    for (int duel = 0; duel < 3; duel++) {
      x.duel(2 * duel, 2 * duel + 1);
      for (int i = 0; i < 7; i++) {
        x.stake(duel, x.make(2 * duel, new int[] {HEAL_3_FREE, HURT_1_FREE, ADD_1_FREE}[duel]));
      }
      x.stake(duel, x.make(2 * duel + 1, ADD_1_FREE));
      x.start(duel);
    }
    for (int duel = 0; duel < 3; duel++) {
      for (int snapshot = 0; snapshot < 6; snapshot++) {
        x.play(duel, 8 * duel + snapshot);
        if (snapshot % 2 == duel % 2) {
          endTurns(x, duel, 2);
        }
        x.snapshot(duel);
        Check.same("blocks in all", x.blocks(), countBlocks(x, 3));
      }
    }
    Check.holds("many blocks: " + x.blocks(), x.blocks() > 15);
    for (int duel = 2; duel >= 0; duel--) {
      x.rollBack(duel, duel);
      Check.same("blocks of fewer snapshots", x.blocks(), countBlocks(x, 3));
    }
  }

  // ---- rollBack of a duel that goes on

  private static void rollBacks() {
    rollBackOfNoDuelOrSnapshot();
    rollBackToTheLastOne();
    laterSnapshotsAreGone();
    theSnapshotStays();
    allNumbersAreBack();
    theWholeStackIsBack();
    theTurnIsBack();
    noSalesWhenItGoesOn();
  }

  private static void rollBackOfNoDuelOrSnapshot() {
    Check.sentence("Promise 25: Throws `IndexOutOfBoundsException` if there is no such duel or "
        + "snapshot");
    SnapshotArena none = withPlayers(2);
    refuses(none, "rollBack of duel 0 of none", INDEX, () -> none.rollBack(0, 0));
    SnapshotArena x = started(kinds(HURT_1_FREE), kinds(HURT_1_FREE));
    refuses(x, "rollBack to snapshot 0 of none", INDEX, () -> x.rollBack(0, 0));
    x.snapshot(0);
    x.snapshot(0);
    refusesOutside(x, "rollBack of duel", 1, INDEX, duel -> x.rollBack(duel, 0));
    refusesOutside(x, "rollBack to snapshot", 2, INDEX, snapshot -> x.rollBack(0, snapshot));
    SnapshotArena ended = wonByFirst();
    refusesOutside(ended, "rollBack of an ended duel to", 1, INDEX, s -> ended.rollBack(0, s));
    SnapshotArena two = withPlayers(4);
    endedDuel(two, 0, 1);
    two.duel(2, 3);
    two.stake(1, two.make(2, 0));
    two.stake(1, two.make(3, 0));
    two.start(1);
    refuses(two, "rollBack to another duel's snapshot", INDEX, () -> two.rollBack(1, 0));
  }

  private static void rollBackToTheLastOne() {
    Check.sentence("Promise 25: `snapshot`: the snapshot, which stays");
    SnapshotArena x = started(EIGHT_FREE, kinds(0));
    for (int snapshot = 0; snapshot < 6; snapshot++) {
      x.snapshot(0);
      x.play(0, snapshot);
    }
    x.rollBack(0, 5);
    for (int snapshot = 0; snapshot < 6; snapshot++) {
      Check.same("snapshot " + snapshot, x.inSnapshot(0, snapshot, 20), snapshot);
    }
    Check.same("depth", x.depth(0), 5);
    x.rollBack(0, 5);
    Check.same("depth when rolled back there again", x.depth(0), 5);
    refuses(x, "card 4 was played then", UNSUPPORTED, () -> x.play(0, 4));
    Check.same("card 5 was not", x.play(0, 5), 1);
  }

  private static void laterSnapshotsAreGone() {
    Check.sentence("Terms: snapshots that were made later are gone");
    SnapshotArena x = started(EIGHT_FREE, kinds(0));
    for (int snapshot = 0; snapshot < 6; snapshot++) {
      x.snapshot(0);
      x.play(0, snapshot);
    }
    x.rollBack(0, 2);
    for (int s = 3; s < 6; s++) {
      int snapshot = s;
      refuses(x, "a number of snapshot " + s, INDEX, () -> x.inSnapshot(0, snapshot, 0));
      refuses(x, "rollBack to snapshot " + s, INDEX, () -> x.rollBack(0, snapshot));
    }
    Check.same("snapshot 2 is there", x.inSnapshot(0, 2, 20), 2);
    x.endTurn(0);
    Check.same("a new snapshot 3", x.snapshot(0), 3);
    Check.same("has the new state", x.inSnapshot(0, 3, 3), 1);
    Check.same("and the new depth", x.inSnapshot(0, 3, 20), 0);
    refuses(x, "snapshot 4 is gone still", INDEX, () -> x.inSnapshot(0, 4, 0));
  }

  private static void theSnapshotStays() {
    Check.sentence("Promise 25: the snapshot, which stays (the first of several, used again)");
    SnapshotArena x = started(kinds(HURT_1_FREE, HURT_1_FREE), kinds(HURT_1_FREE));
    x.snapshot(0);
    for (int i = 0; i < 5; i++) {
      x.play(0, 0);
      x.snapshot(0);
      x.endTurn(0);
      x.play(0, 2);
      x.endTurn(0);
      lives(x, 9, 9);
      Check.same("rollBack " + i, x.rollBack(0, 0), 0);
      snapshotIs(x, 0, 10, 10, 1, 0, 0, 0, 0, 0, 0, 0, 0, 0, 0, 0, 0, 0, 0, 0, 0, 0, 0, -1, -1, -1);
      lives(x, 10, 10);
      Check.same("depth", x.depth(0), 0);
      Check.same("mana", x.mana(0), 1);
    }
  }

  private static void allNumbersAreBack() {
    Check.sentence("Terms: rolls a duel [..] back to a snapshot of it (each of the 24 numbers)");
    for (int snapshot = 0; snapshot < 5; snapshot++) {
      SnapshotArena x = withFiveUnlikeSnapshots();
      int[] due = new int[24];
      for (int place = 0; place < 24; place++) {
        due[place] = x.inSnapshot(0, snapshot, place);
      }
      x.rollBack(0, snapshot);
      lives(x, due[0], due[1]);
      Check.same("mana", x.mana(0), due[2]);
      Check.same("depth", x.depth(0), due[20]);
      Check.same("a snapshot of it", x.snapshot(0), snapshot + 1);
      snapshotIs(x, snapshot, due);
      snapshotIs(x, snapshot + 1, due);
    }
  }

  private static SnapshotArena withFiveUnlikeSnapshots() {
    SnapshotArena x = started(
        kinds(HEAL_3_FREE, HURT_1_FREE, HURT_2_COST_1, HURT_4_FREE, ADD_1_FREE, HURT_1_FREE),
        kinds(HURT_1_FREE, HEAL_3_FREE, HEAL_1_COST_1, HURT_4_FREE));
    int[][] played = {{0}, {6}, {1, 4, 2}, {7, 8}, {3}};
    int[][] lives = {{10, 10}, {13, 10}, {12, 10}, {12, 6}, {12, 10}};
    for (int turn = 0; turn < played.length; turn++) {
      lives(x, lives[turn][0], lives[turn][1]);
      playAll(x, played[turn]);
      x.snapshot(0);
      x.endTurn(0);
    }
    lives(x, 12, 6);
    return x;
  }

  private static void theWholeStackIsBack() {
    Check.sentence("Terms: The whole stack is kept, too.");
    SnapshotArena x = started(kinds(HURT_1_FREE, HURT_1_FREE, ADD_4_FREE, HEAL_3_FREE, HURT_1_FREE,
        ADD_1_FREE, HEAL_3_FREE, ADD_4_FREE), kinds(HURT_1_FREE));
    for (int depth = 0; depth < 5; depth++) {
      x.snapshot(0);
      x.play(0, depth);
    }
    playAll(x, 5, 6, 7);
    x.snapshot(0);
    x.endTurn(0);
    lives(x, 20, 2);
    int[] depths = {8, 4, 3, 2, 1, 0};
    int[][] due = {{20, 2}, {13, 4}, {10, 4}, {10, 8}, {10, 9}, {10, 10}};
    for (int i = 0; i < depths.length; i++) {
      x.play(0, 8);
      x.rollBack(0, 5 - i);
      Check.same("depth", x.depth(0), depths[i]);
      x.endTurn(0);
      lives(x, due[i][0], due[i][1]);
    }
  }

  private static void theTurnIsBack() {
    Check.sentence("Terms: rolls a duel that goes on [..] back to a snapshot of it (in either's turn)");
    SnapshotArena x = started(kinds(HEAL_1_COST_1, HURT_1_FREE), kinds(HEAL_1_COST_1, HURT_1_FREE));
    x.snapshot(0);
    x.endTurn(0);
    x.play(0, 2);
    x.snapshot(0);
    endTurns(x, 0, 4);
    x.rollBack(0, 1);
    Check.same("mana of the second, paid from", x.mana(0), 0);
    refuses(x, "the first one has not the turn", UNSUPPORTED, () -> x.play(0, 1));
    refuses(x, "the second one's card is played", UNSUPPORTED, () -> x.play(0, 2));
    Check.same("the second one's other card", x.play(0, 3), 0);
    x.endTurn(0);
    Check.same("mana after 2 turns", x.mana(0), 2);
    x.rollBack(0, 0);
    Check.same("mana at the start", x.mana(0), 1);
    Check.same("the first one has the turn", x.play(0, 0), 0);
    x.endTurn(0);
    Check.same("the second one's card is unplayed", x.play(0, 2), 0);
    lives(x, 11, 10);
  }

  private static void noSalesWhenItGoesOn() {
    Check.sentence("Promise 25: Returns how many sales were undone. (none when it goes on)");
    SnapshotArena x = withPlayers(3);
    x.make(2, HURT_1_FREE);
    x.make(2, HURT_1_FREE);
    x.make(1, HURT_1_FREE);
    int sale = sell(x, 0, 20, 0);
    int open = x.offer(1, 20);
    x.duel(0, 1);
    x.stake(0, 0);
    x.stake(0, 2);
    x.start(0);
    x.snapshot(0);
    x.endTurn(0);
    int ahead = x.postings();
    Check.same("rollBack", x.rollBack(0, 0), 0);
    Check.same("no postings", x.postings(), ahead);
    Check.sameChar("a sale from before the duel", x.offerState(sale), 'b');
    Check.sameChar("an offer of another card", x.offerState(open), 'o');
    Check.same("the owner of the card bought", x.ownerOf(0), 0);
    Check.same("coins of the seller", x.coinsOf(2), 118);
  }

  // ---- rollBack of a duel that has ended

  private static void rollBacksOfTheEnd() {
    cardsGoBack();
    cardsOfTheFirstGoBack();
    cardsWithoutAWinnerGoBack();
    itGoesOn();
    anotherEnd();
    otherDuelsStay();
  }

  private static void cardsGoBack() {
    Check.sentence("Terms: all its cards go back to those who staked them, and are staked again, with "
        + "a posting for each whose owner changes by that");
    SnapshotArena x = started(kinds(12, 12, 12, 0, 0, 0, 0, 0), new int[8]);
    x.snapshot(0);
    playAll(x, 0, 1, 2);
    x.endTurn(0);
    int ahead = x.postings();
    Check.same("no sales", x.rollBack(0, 0), 0);
    Check.same("a posting for each of the loser's 8 cards", x.postings(), ahead + 8);
    for (int card = 0; card < 16; card++) {
      Check.sameChar("card " + card, x.stateOf(card), 's');
      Check.same("owner of card " + card, x.ownerOf(card), card < 8 ? 0 : 1);
      Check.same("owner by postings of card " + card, x.ownerByPostings(card), card < 8 ? 0 : 1);
    }
    for (int i = 0; i < 8; i++) {
      postingIs(x, ahead + i, 8 + i, 0, 1);
    }
  }

  private static void cardsOfTheFirstGoBack() {
    Check.sentence("Terms: and the winner has them no more");
    SnapshotArena x = withPlayers(4);
    x.duel(3, 1);
    for (int card = 0; card < 6; card++) {
      x.make(card % 2 == 0 ? 3 : 1, HURT_4_FREE);
    }
    for (int card : new int[] {4, 1, 0, 5, 3, 2}) {
      x.stake(0, card);
    }
    x.start(0);
    x.snapshot(0);
    x.endTurn(0);
    playAll(x, 1, 3, 5);
    x.endTurn(0);
    Check.same("the winner is the second", x.winner(0), 1);
    Check.same("cards of the winner", x.cardsOf(1), 6);
    x.rollBack(0, 0);
    Check.same("cards of the winner then", x.cardsOf(1), 3);
    Check.same("cards of the loser then", x.cardsOf(3), 3);
    Check.same("won, and back", x.postings(), 6 + 3 + 3);
    int[] staked = {4, 0, 2};
    for (int i = 0; i < 3; i++) {
      postingIs(x, 6 + i, staked[i], 3, 1);
      postingIs(x, 9 + i, staked[i], 1, 3);
    }
  }

  private static void cardsWithoutAWinnerGoBack() {
    Check.sentence("Terms: with a posting for each whose owner changes by that (none, if nobody won)");
    SnapshotArena x = wonByNobody();
    Check.same("rollBack", x.rollBack(0, 0), 0);
    Check.same("postings", x.postings(), 2);
    Check.sameChar("the first one's card", x.stateOf(0), 's');
    Check.sameChar("the second one's card", x.stateOf(1), 's');
  }

  private static void itGoesOn() {
    Check.sentence("Terms: It goes on then.");
    SnapshotArena x = wonByFirst();
    x.rollBack(0, 0);
    Check.sameChar("state", x.duelState(0), 'g');
    lives(x, 10, 10);
    Check.same("mana", x.mana(0), 1);
    refuses(x, "no winner", NO_ELEMENT, () -> x.winner(0));
    int other = x.make(0, 0);
    refuses(x, "stake of another card", UNSUPPORTED, () -> x.stake(0, other));
    refuses(x, "offer of a card that is staked again", STATE, () -> x.offer(0, 1));
    refuses(x, "close", UNSUPPORTED, () -> x.close(0));
    Check.same("a card is played again", x.play(0, 0), 1);
    Check.same("rolled back again when it goes on", x.rollBack(0, 0), 0);
    Check.same("and played again", x.play(0, 0), 1);
  }

  private static void anotherEnd() {
    Check.sentence("Terms: rolls a duel that [..] has ended back to a snapshot of it (to end otherwise)");
    SnapshotArena x = started(kinds(HURT_4_FREE), kinds(HURT_4_FREE, HURT_4_FREE, HURT_4_FREE));
    x.snapshot(0);
    x.play(0, 0);
    x.endTurn(0);
    x.snapshot(0);
    playAll(x, 1, 2);
    x.endTurn(0);
    x.endTurn(0);
    x.play(0, 3);
    x.endTurn(0);
    Check.same("the second wins", x.winner(0), 1);
    lives(x, -2, 6);
    x.rollBack(0, 1);
    lives(x, 10, 6);
    playAll(x, 1);
    x.endTurn(0);
    lives(x, 6, 6);
    x.endTurn(0);
    playAll(x, 2, 3);
    Check.sameChar("the end", x.endTurn(0), 'e');
    lives(x, -2, 6);
    x.rollBack(0, 0);
    x.endTurn(0);
    playAll(x, 1, 2);
    x.endTurn(0);
    x.play(0, 0);
    x.endTurn(0);
    lives(x, 2, 6);
    x.play(0, 3);
    x.endTurn(0);
    Check.same("the second wins by the first's life of -2", x.life(0, false), -2);
    x.close(0);
    Check.same("all are the second one's", x.cardsOf(1), 4);
    Check.holds("sound", x.isSound());
  }

  private static void otherDuelsStay() {
    Check.sentence("Terms: The judge rolls a duel [..] back (and no other one)");
    SnapshotArena x = withPlayers(3);
    endedDuel(x, 0, 1);
    endedDuel(x, 1, 2);
    sell(x, 3, 10, 0);
    int open = x.offer(2, 10);
    sell(x, 1, 10, 2);
    Check.same("one sale of duel 0", x.rollBack(0, 0), 1);
    Check.sameChar("duel 1", x.duelState(1), 'e');
    Check.same("winner of duel 1", x.winner(1), 1);
    Check.sameChar("a sold card of duel 1", x.stateOf(3), 'w');
    Check.same("owner of it", x.ownerOf(3), 0);
    Check.sameChar("an open offer of duel 1", x.offerState(open), 'o');
    Check.same("apart", x.apart(), 10);
    Check.same("snapshot of duel 1", x.inSnapshot(1, 0, 0), 10);
    refuses(x, "rollBack of duel 1 now", STATE, () -> x.rollBack(1, 0));
  }

  // ---- rollBack and sales

  private static void rollBacksOfSales() {
    salesUndone();
    latestSaleFirst();
    buyersGetBack();
    soldToTheLoserAndBack();
    salesOfTheWinnersCards();
    offersAreGone();
    salesFromBeforeStay();
    sixtySales();
  }

  private static void salesUndone() {
    Check.sentence("Promise 25: Returns how many sales were undone. (none, one, several)");
    for (int sales = 0; sales <= 5; sales++) {
      SnapshotArena x = wonByFirst();
      for (int card = 0; card < sales; card++) {
        sell(x, card, 1, 2);
      }
      Check.same("rollBack", x.rollBack(0, 0), sales);
      Check.same("apart", x.apart(), 0);
      Check.same("coins of the buyer", x.coinsOf(2), 100);
      Check.same("cards of the buyer", x.cardsOf(2), 0);
    }
  }

  private static void latestSaleFirst() {
    Check.sentence("Terms: sales of them are undone, the latest first, each with a posting from the "
        + "buyer to the seller");
    SnapshotArena x = wonByFirst();
    int late = x.offer(3, 5);
    int early = x.offer(4, 5);
    int ahead = x.postings();
    x.buy(2, early);
    x.buy(1, late);
    int again = x.offer(3, 6);
    x.buy(2, again);
    Check.same("three sales", x.rollBack(0, 0), 3);
    postingIs(x, ahead + 3, 3, 2, 1);
    postingIs(x, ahead + 4, 3, 1, 0);
    postingIs(x, ahead + 5, 4, 2, 0);
    Check.same("then the cards", x.postings(), ahead + 8);
    postingIs(x, ahead + 6, 3, 0, 1);
    postingIs(x, ahead + 7, 4, 0, 1);
  }

  private static void buyersGetBack() {
    Check.sentence("Terms: each buyer getting back what was paid");
    SnapshotArena x = new SnapshotArena();
    x.player(0);
    x.player(0);
    x.player(999);
    x.player(11);
    endedDuel(x, 0, 1);
    sell(x, 1, 999, 2);
    sell(x, 1, 11, 3);
    Check.same("all of it was paid", x.coinsOf(2), 0);
    Check.same("all of that too", x.coinsOf(3), 0);
    Check.same("apart", x.apart(), 1010);
    Check.same("two sales", x.rollBack(0, 0), 2);
    Check.same("coins of the first buyer", x.coinsOf(2), 999);
    Check.same("coins of the second buyer", x.coinsOf(3), 11);
    Check.same("coins of the seller", x.coinsOf(0), 0);
    Check.same("the house took no fee", x.house(), 0);
    Check.same("apart then", x.apart(), 0);
    Check.holds("sound", x.isSound());
  }

  private static void soldToTheLoserAndBack() {
    Check.sentence("Terms: behind those of sales (of a card that its loser, and then its winner "
        + "bought)");
    SnapshotArena x = wonByFirst();
    int ahead = x.postings();
    sell(x, 3, 10, 1);
    Check.same("one sale", x.rollBack(0, 0), 1);
    Check.same("postings", x.postings(), ahead + 4);
    postingIs(x, ahead + 1, 3, 1, 0);
    postingIs(x, ahead + 2, 3, 0, 1);
    postingIs(x, ahead + 3, 4, 0, 1);
    playAll(x, 0, 1, 2);
    x.endTurn(0);
    sell(x, 4, 10, 2);
    sell(x, 4, 10, 0);
    ahead = x.postings();
    Check.same("two sales", x.rollBack(0, 0), 2);
    postingIs(x, ahead, 4, 0, 2);
    postingIs(x, ahead + 1, 4, 2, 0);
    postingIs(x, ahead + 2, 3, 0, 1);
    postingIs(x, ahead + 3, 4, 0, 1);
  }

  private static void salesOfTheWinnersCards() {
    Check.sentence("Terms: sales of them are undone (of the winner's own cards, and without a winner)");
    SnapshotArena x = wonByFirst();
    int ahead = x.postings();
    sell(x, 0, 10, 2);
    sell(x, 2, 10, 1);
    Check.same("two sales", x.rollBack(0, 0), 2);
    postingIs(x, ahead + 2, 2, 1, 0);
    postingIs(x, ahead + 3, 0, 2, 0);
    Check.same("and the loser's two cards", x.postings(), ahead + 6);
    SnapshotArena drawn = wonByNobody();
    sell(drawn, 0, 10, 1);
    sell(drawn, 1, 10, 0);
    Check.same("two sales without a winner", drawn.rollBack(0, 0), 2);
    Check.same("postings", drawn.postings(), 6);
    postingIs(drawn, 4, 1, 0, 1);
    postingIs(drawn, 5, 0, 1, 0);
  }

  private static void offersAreGone() {
    Check.sentence("Terms: offers of them are gone");
    SnapshotArena x = wonByFirst();
    int ofWon = x.offer(3, 10);
    int ofWinners = x.offer(0, 10);
    int bought = sell(x, 4, 10, 2);
    int ofBought = x.offer(4, 20);
    int free = x.make(2, 0);
    int ofFree = x.offer(free, 10);
    x.rollBack(0, 0);
    for (int offer : new int[] {ofWon, ofWinners, bought, ofBought}) {
      Check.sameChar("offer " + offer, x.offerState(offer), 'g');
      refuses(x, "buy of offer " + offer, UNSUPPORTED, () -> x.buy(2, offer));
      refuses(x, "withdraw of offer " + offer, UNSUPPORTED, () -> x.withdraw(offer));
    }
    Check.sameChar("the offer of a card that was not staked", x.offerState(ofFree), 'o');
    playAll(x, 0, 1, 2);
    x.endTurn(0);
    Check.same("the card can be offered again", x.offer(3, 10), 5);
    refuses(x, "the free card is offered still", STATE, () -> x.offer(free, 1));
  }

  private static void salesFromBeforeStay() {
    Check.sentence("Terms: sales of them are undone (those since the end of this duel)");
    SnapshotArena x = withPlayers(3);
    endedDuel(x, 0, 1);
    int early = sell(x, 1, 10, 2);
    x.close(0);
    int free = sell(x, 1, 10, 0);
    x.duel(0, 1);
    x.stake(1, 1);
    x.stake(1, x.make(1, HURT_2_COST_1));
    x.start(1);
    x.snapshot(1);
    x.play(1, 1);
    x.endTurn(1);
    x.play(1, 2);
    x.endTurn(1);
    Check.same("the second wins", x.winner(1), 1);
    int late = sell(x, 1, 10, 2);
    Check.same("one sale", x.rollBack(1, 0), 1);
    Check.sameChar("of a duel that is final", x.offerState(early), 'b');
    Check.sameChar("of the free card", x.offerState(free), 'b');
    Check.sameChar("of the won card", x.offerState(late), 'g');
    Check.same("owner", x.ownerOf(1), 0);
    Check.same("fees", x.house(), 2);
    Check.sameDouble("mean of the two", x.meanPrice(), 10.0);
  }

  private static void sixtySales() {
    Check.sentence("Promise 25: Returns how many sales were undone. (all 60 offers)");
    SnapshotArena x = new SnapshotArena();
    x.player(999);
    x.player(999);
    x.player(999);
    endedDuel(x, 0, 1);
    int ahead = x.postings();
    for (int sale = 0; sale < 60; sale++) {
      sell(x, 1, sale + 1, (sale + 1) % 2 * 2);
    }
    refuses(x, "a 61st offer", STATE, () -> x.offer(1, 1));
    Check.same("apart", x.apart(), 60 * 61 / 2);
    Check.same("postings of sales", x.postings(), ahead + 60);
    Check.same("all are undone", x.rollBack(0, 0), 60);
    Check.same("postings", x.postings(), ahead + 60 + 60 + 1);
    postingIs(x, ahead + 60, 1, 0, 2);
    postingIs(x, ahead + 119, 1, 2, 0);
    postingIs(x, ahead + 120, 1, 0, 1);
    Check.same("coins of the first", x.coinsOf(0), 999);
    Check.same("coins of the third", x.coinsOf(2), 999);
    Check.same("apart then", x.apart(), 0);
    refuses(x, "a 61st offer, all gone", STATE, () -> x.offer(1, 1));
  }

  // ---- rollBack refused

  private static void rollBacksRefused() {
    rollBackOfAFinalDuel();
    rollBackOfAnOpenDuel();
    rollBackOfABusyPlayer();
    rollBackWhenABuyerIsBusy();
  }

  private static void rollBackOfAFinalDuel() {
    Check.sentence("Promise 25: Throws `UnsupportedOperationException` if it is open or final");
    SnapshotArena x = wonByFirst();
    sell(x, 3, 10, 2);
    x.close(0);
    refuses(x, "rollBack of a final duel", UNSUPPORTED, () -> x.rollBack(0, 0));
    SnapshotArena drawn = wonByNobody();
    drawn.close(0);
    refuses(drawn, "rollBack of a final one, drawn", UNSUPPORTED, () -> drawn.rollBack(0, 0));
  }

  private static void rollBackOfAnOpenDuel() {
    Check.sentence("Promise 25: if it is open (it has no snapshot, which is told first)");
    SnapshotArena x = staked(kinds(0), kinds(0));
    refuses(x, "rollBack of an open duel", INDEX, () -> x.rollBack(0, 0));
  }

  private static void rollBackOfABusyPlayer() {
    Check.sentence("Promise 25: Throws `IllegalStateException` if one of its players is in another "
        + "duel that has not ended");
    int[][] pairs = {{0, 2}, {2, 0}, {1, 2}, {2, 1}, {0, 1}, {1, 0}};
    for (int[] pair : pairs) {
      SnapshotArena x = wonByFirst();
      sell(x, 3, 10, 2);
      x.duel(pair[0], pair[1]);
      refuses(x, "another is open", STATE, () -> x.rollBack(0, 0));
      int first = x.make(pair[0], HURT_1_FREE);
      int second = x.make(pair[1], HURT_1_FREE);
      x.stake(1, first);
      x.stake(1, second);
      x.start(1);
      refuses(x, "another goes on", STATE, () -> x.rollBack(0, 0));
      x.play(1, first);
      x.endTurn(1);
      x.play(1, second);
      x.endTurn(1);
      Check.same("another has ended", x.rollBack(0, 0), 1);
    }
  }

  private static void rollBackWhenABuyerIsBusy() {
    Check.sentence("Terms: It cannot be, if one of its players is in another duel that has not "
        + "ended. (a buyer is none of them)");
    SnapshotArena x = wonByFirst();
    x.player(50);
    sell(x, 3, 10, 2);
    x.duel(2, 3);
    Check.same("the buyer is in a duel", x.rollBack(0, 0), 1);
    Check.same("coins of the buyer", x.coinsOf(2), 100);
    Check.sameChar("the buyer's duel", x.duelState(1), 'o');
    SnapshotArena going = started(kinds(0), kinds(0));
    going.player(50);
    going.snapshot(0);
    going.duel(3, 2);
    Check.same("a duel of others", going.rollBack(0, 0), 0);
  }
}
