import java.util.NoSuchElementException;

/** What several tests need: arenas in a known state, and checks of more than one answer. */
abstract class Scene {
  static final Class<?> INDEX = IndexOutOfBoundsException.class;
  static final Class<?> ARGUMENT = IllegalArgumentException.class;
  static final Class<?> STATE = IllegalStateException.class;
  static final Class<?> UNSUPPORTED = UnsupportedOperationException.class;
  static final Class<?> NO_ELEMENT = NoSuchElementException.class;
  static final Class<?> ARITHMETIC = ArithmeticException.class;

  // Kinds by what they do: the effect is kind % 4, the power kind / 4 + 1, the cost kind % 3.
  static final int HURT_1_FREE = 0;
  static final int HEAL_1_COST_1 = 1;
  static final int AWAY_COST_2 = 2;
  static final int ADD_1_FREE = 3;
  static final int HURT_2_COST_1 = 4;
  static final int AWAY_FREE = 6;
  static final int HURT_3_COST_2 = 8;
  static final int HEAL_3_FREE = 9;
  static final int HURT_4_FREE = 12;
  static final int ADD_4_FREE = 15;

  static final int[] WRONG_NUMBERS = {-1, Integer.MIN_VALUE, Integer.MAX_VALUE, 1000};

  static SnapshotArena withPlayers(int count) {
    SnapshotArena x = new SnapshotArena();
    for (int i = 0; i < count; i++) {
      x.player(100);
    }
    return x;
  }

  /** Three players; duel 0 between 0 and 1 is open; the first one's cards have the low numbers. */
  static SnapshotArena staked(int[] ofFirst, int[] ofSecond) {
    SnapshotArena x = withPlayers(3);
    x.duel(0, 1);
    for (int kind : ofFirst) {
      x.stake(0, x.make(0, kind));
    }
    for (int kind : ofSecond) {
      x.stake(0, x.make(1, kind));
    }
    return x;
  }

  static SnapshotArena started(int[] ofFirst, int[] ofSecond) {
    SnapshotArena x = staked(ofFirst, ofSecond);
    x.start(0);
    return x;
  }

  static int[] kinds(int... kinds) {
    return kinds;
  }

  /** Player 0 wins in one turn; cards 0 to 2 are this player's, 3 and 4 those of player 1. */
  static SnapshotArena wonByFirst() {
    SnapshotArena x =
        started(kinds(HURT_4_FREE, HURT_4_FREE, HURT_4_FREE), kinds(HURT_1_FREE, HURT_1_FREE));
    x.snapshot(0);
    playAll(x, 0, 1, 2);
    x.endTurn(0);
    return x;
  }

  /** Snapshot 0 is made, then all cards are played and both have the same life. */
  static SnapshotArena wonByNobody() {
    SnapshotArena x = started(kinds(HURT_1_FREE), kinds(HURT_1_FREE));
    x.snapshot(0);
    x.play(0, 0);
    x.endTurn(0);
    x.play(0, 1);
    x.endTurn(0);
    return x;
  }

  static void playAll(SnapshotArena x, int... cards) {
    for (int card : cards) {
      x.play(0, card);
    }
  }

  static int sell(SnapshotArena x, int card, int price, int buyer) {
    int offer = x.offer(card, price);
    x.buy(buyer, offer);
    return offer;
  }

  static void postingIs(SnapshotArena x, int index, int card, int from, int to) {
    Check.same("card of posting " + index, x.posting(index, 'c'), card);
    Check.same("giver of posting " + index, x.posting(index, 'f'), from);
    Check.same("taker of posting " + index, x.posting(index, 't'), to);
  }

  static void lives(SnapshotArena x, int first, int second) {
    Check.same("life of the first", x.life(0, false), first);
    Check.same("life of the second", x.life(0, true), second);
  }

  static void refuses(SnapshotArena x, String what, Class<?> due, Check.Call call) {
    Check.refuses(x, what, due, call);
  }

  interface NumberCall {
    void run(int number);
  }

  /** Numbers beside and far from 0 to count - 1; some would be there if cut or wrapped around. */
  static int[] outside(int count) {
    return new int[] {-1, count, 256, 65536, -65536, 0x20000000, 0x40000000, 0x55555556,
        Integer.MIN_VALUE, Integer.MAX_VALUE};
  }

  /** Each number outside of 0 to count - 1 is refused. */
  static void refusesOutside(SnapshotArena x, String what, int count, Class<?> due,
      NumberCall call) {
    for (int number : outside(count)) {
      if (number < 0 || number >= count) {
        refuses(x, what + " " + number, due, () -> call.run(number));
      }
    }
  }

  static char endTurns(SnapshotArena x, int duel, int turns) {
    char state = x.duelState(duel);
    for (int i = 0; i < turns; i++) {
      state = x.endTurn(duel);
    }
    return state;
  }

  /** A duel of one new card each, with snapshot 0 ahead of the first turn, ended by both played. */
  static int endedDuel(SnapshotArena x, int winner, int loser) {
    int duel = x.duel(winner, loser);
    int strong = x.make(winner, HURT_4_FREE);
    int weak = x.make(loser, HURT_1_FREE);
    x.stake(duel, strong);
    x.stake(duel, weak);
    x.start(duel);
    x.snapshot(duel);
    x.play(duel, strong);
    x.endTurn(duel);
    x.play(duel, weak);
    x.endTurn(duel);
    return duel;
  }
}
