/** The boundary cases of duels, turns and the stack: a test for each sentence that names one. */
public final class BoundaryDuelsTest extends Scene {
  public static void main(String[] args) {
    opening();
    staking();
    starting();
    playing();
    turns();
    stack();
    lifeGone();
    allPlayed();
    asking();
    closing();
    Check.finish("BoundaryDuelsTest");
  }

  // ---- duel

  private static void opening() {
    duelOfNobody();
    duelWithOneself();
    duelOfABusyPlayer();
    duelOfAPlayerWhoseDuelEnded();
    eightDuels();
    duelsFromZero();
    threeDuelsAtOnce();
  }

  private static void duelOfNobody() {
    Check.sentence("Promise 11: Throws `IndexOutOfBoundsException` if there is no such player, for "
        + "either");
    SnapshotArena x = withPlayers(3);
    refusesOutside(x, "duel of first", 3, INDEX, player -> x.duel(player, 0));
    refusesOutside(x, "duel of second", 3, INDEX, player -> x.duel(0, player));
    Check.same("duel of the last and the first player", x.duel(2, 0), 0);
  }

  private static void duelWithOneself() {
    Check.sentence("Promise 11: Throws `IllegalArgumentException` if both are the same");
    SnapshotArena x = withPlayers(6);
    for (int p = 0; p < 6; p++) {
      int player = p;
      refuses(x, "duel of " + player + " twice", ARGUMENT, () -> x.duel(player, player));
    }
  }

  private static void duelOfABusyPlayer() {
    Check.sentence("Promise 11: Throws `IllegalStateException` if one is in a duel that has not "
        + "ended");
    SnapshotArena x = staked(kinds(0), kinds(0));
    busyPlayersAreRefused(x);
    x.start(0);
    busyPlayersAreRefused(x);
    x.play(0, 0);
    x.endTurn(0);
    x.play(0, 1);
    busyPlayersAreRefused(x);
  }

  private static void busyPlayersAreRefused(SnapshotArena x) {
    int[][] pairs = {{0, 1}, {1, 0}, {0, 2}, {2, 0}, {1, 2}, {2, 1}};
    for (int[] pair : pairs) {
      refuses(x, "duel of " + pair[0] + " and " + pair[1], STATE, () -> x.duel(pair[0], pair[1]));
    }
  }

  private static void duelOfAPlayerWhoseDuelEnded() {
    Check.sentence("Terms: of whom none is in another duel that has not ended");
    SnapshotArena x = wonByFirst();
    Check.same("a duel of the winner of one that ended", x.duel(2, 0), 1);
    SnapshotArena y = wonByFirst();
    Check.same("a duel of the loser of one that ended", y.duel(1, 2), 1);
    SnapshotArena drawn = wonByNobody();
    Check.same("a duel of the same two again", drawn.duel(0, 1), 1);
    SnapshotArena closed = wonByFirst();
    closed.close(0);
    Check.same("a duel of the same two when it is final", closed.duel(1, 0), 1);
    SnapshotArena back = wonByFirst();
    back.rollBack(0, 0);
    refuses(back, "a duel of one whose duel goes on again", STATE, () -> back.duel(0, 2));
  }

  private static void eightDuels() {
    Check.sentence("Promise 11: or there are 8");
    SnapshotArena x = withPlayers(2);
    for (int duel = 0; duel < 7; duel++) {
      Check.same("duel " + duel, endedDuel(x, 0, 1), duel);
    }
    Check.same("the 8th duel", endedDuel(x, 1, 0), 7);
    refuses(x, "a 9th duel", STATE, () -> x.duel(0, 1));
    for (int duel = 0; duel < 8; duel++) {
      x.close(duel);
    }
    refuses(x, "a 9th duel when all are final", STATE, () -> x.duel(0, 1));
    x.player(0);
    refuses(x, "a 9th duel of a new player", STATE, () -> x.duel(0, 2));
    refuses(x, "duel 8", INDEX, () -> x.duelState(8));
    Check.sameChar("duel 7", x.duelState(7), 'f');
  }

  private static void duelsFromZero() {
    Check.sentence("Terms: At most 8 duels are numbered from 0, each between two players");
    SnapshotArena x = withPlayers(4);
    refuses(x, "duel with oneself", ARGUMENT, () -> x.duel(0, 0));
    Check.same("the first duel", x.duel(2, 3), 0);
    refuses(x, "duel of a busy one", STATE, () -> x.duel(0, 3));
    Check.same("the second duel", x.duel(1, 0), 1);
    Check.sameChar("the first duel at first", x.duelState(0), 'o');
    Check.sameChar("the second duel at first", x.duelState(1), 'o');
  }

  private static void threeDuelsAtOnce() {
    Check.sentence("Terms: each between two players, first and second (six players at once)");
    SnapshotArena x = withPlayers(6);
    for (int duel = 0; duel < 3; duel++) {
      x.duel(5 - 2 * duel, 4 - 2 * duel);
      x.stake(duel, x.make(5 - 2 * duel, HURT_4_FREE));
      x.stake(duel, x.make(4 - 2 * duel, HURT_1_FREE));
    }
    for (int duel = 0; duel < 3; duel++) {
      x.start(duel);
    }
    x.play(1, 2);
    x.endTurn(1);
    Check.same("life of the second of duel 1", x.life(1, true), 6);
    Check.same("life of the second of duel 0", x.life(0, true), 10);
    Check.same("life of the second of duel 2", x.life(2, true), 10);
    refuses(x, "a card of another duel", UNSUPPORTED, () -> x.play(0, 3));
    refuses(x, "a card of another duel, on its player's turn", UNSUPPORTED, () -> x.play(1, 5));
    Check.same("the second of duel 1 has the turn", x.play(1, 3), 1);
  }

  // ---- stake

  private static void staking() {
    stakeOfNothing();
    stakeWhereNoneIsOpen();
    stakeByNoneOfThePlayers();
    stakeOfACardNotFree();
    stakeOfAnOfferedCard();
    stakeOfANinthCard();
    stakesAreCountedByOwnerAndDuel();
    stakeOfABoughtCard();
  }

  private static void stakeOfNothing() {
    Check.sentence("Promise 12: Throws `IndexOutOfBoundsException` if there is no such duel or card");
    SnapshotArena x = staked(kinds(), kinds());
    refuses(x, "stake of card 0 of none", INDEX, () -> x.stake(0, 0));
    x.make(0, 0);
    refusesOutside(x, "stake in duel", 1, INDEX, duel -> x.stake(duel, 0));
    refusesOutside(x, "stake of card", 1, INDEX, card -> x.stake(0, card));
    Check.same("stake of the only card", x.stake(0, 0), 1);
  }

  private static void stakeWhereNoneIsOpen() {
    Check.sentence("Promise 12: Throws `UnsupportedOperationException` if the duel is not open");
    SnapshotArena x = wonByFirst();
    int own = x.make(0, 0);
    refuses(x, "stake in an ended duel", UNSUPPORTED, () -> x.stake(0, own));
    x.rollBack(0, 0);
    refuses(x, "stake in a duel that goes on again", UNSUPPORTED, () -> x.stake(0, own));
    playAll(x, 0, 1, 2);
    x.endTurn(0);
    x.close(0);
    refuses(x, "stake in a final duel", UNSUPPORTED, () -> x.stake(0, own));
    SnapshotArena going = started(kinds(0), kinds(0));
    int second = going.make(1, 0);
    refuses(going, "stake in a duel that goes on", UNSUPPORTED, () -> going.stake(0, second));
  }

  private static void stakeByNoneOfThePlayers() {
    Check.sentence("Promise 12: or the owner is none of its players");
    SnapshotArena x = withPlayers(4);
    x.duel(3, 1);
    for (int player = 0; player < 4; player++) {
      x.make(player, 0);
    }
    refuses(x, "stake of player 0's card", UNSUPPORTED, () -> x.stake(0, 0));
    refuses(x, "stake of player 2's card", UNSUPPORTED, () -> x.stake(0, 2));
    Check.same("stake of the first one's card", x.stake(0, 3), 1);
    Check.same("stake of the second one's card", x.stake(0, 1), 1);
    x.duel(0, 2);
    refuses(x, "stake in another's duel", UNSUPPORTED, () -> x.stake(1, 1));
  }

  private static void stakeOfACardNotFree() {
    Check.sentence("Promise 12: Throws `IllegalStateException` if the card is not free");
    SnapshotArena x = staked(kinds(0), kinds(0));
    refuses(x, "stake of the first one's staked card", STATE, () -> x.stake(0, 0));
    refuses(x, "stake of the second one's staked card", STATE, () -> x.stake(0, 1));
    SnapshotArena won = wonByFirst();
    won.duel(2, 0);
    for (int c = 0; c < 5; c++) {
      int card = c;
      refuses(won, "stake of won card " + card, STATE, () -> won.stake(1, card));
    }
    won.close(0);
    for (int card = 0; card < 5; card++) {
      Check.same("stake when free", won.stake(1, card), card + 1);
    }
  }

  private static void stakeOfAnOfferedCard() {
    Check.sentence("Promise 12: or is offered");
    SnapshotArena x = staked(kinds(), kinds());
    x.make(0, 0);
    x.make(0, 0);
    x.offer(0, 10);
    refuses(x, "stake of an offered card", STATE, () -> x.stake(0, 0));
    Check.same("stake of another card", x.stake(0, 1), 1);
    x.withdraw(0);
    Check.same("stake of a card whose offer was withdrawn", x.stake(0, 0), 2);
    SnapshotArena won = wonByFirst();
    int open = won.offer(3, 10);
    won.close(0);
    won.duel(0, 1);
    refuses(won, "stake of a card offered while it was won", STATE, () -> won.stake(1, 3));
    won.withdraw(open);
    Check.same("stake of it when withdrawn", won.stake(1, 3), 1);
  }

  private static void stakeOfANinthCard() {
    Check.sentence("Promise 12: or the owner staked 8");
    SnapshotArena x = staked(kinds(0, 0, 0, 0, 0, 0, 0), kinds(0, 0, 0, 0, 0, 0, 0));
    int eighthOfFirst = x.make(0, 0);
    int ninthOfFirst = x.make(0, 0);
    int eighthOfSecond = x.make(1, 0);
    int ninthOfSecond = x.make(1, 0);
    Check.same("the 8th of the first", x.stake(0, eighthOfFirst), 8);
    refuses(x, "a 9th of the first", STATE, () -> x.stake(0, ninthOfFirst));
    Check.same("the 8th of the second", x.stake(0, eighthOfSecond), 8);
    refuses(x, "a 9th of the second", STATE, () -> x.stake(0, ninthOfSecond));
    refuses(x, "a 9th of the first again", STATE, () -> x.stake(0, ninthOfFirst));
    Check.same("start with 16 cards", x.start(0), 16);
  }

  private static void stakesAreCountedByOwnerAndDuel() {
    Check.sentence("Promise 12: Returns how many cards its owner staked there then.");
    SnapshotArena x = withPlayers(4);
    x.duel(0, 1);
    x.duel(2, 3);
    for (int card = 0; card < 8; card++) {
      x.make(card % 4, 0);
    }
    for (int card = 0; card < 4; card++) {
      Check.same("the first of player " + card, x.stake(card / 2, card), 1);
    }
    for (int card = 4; card < 8; card++) {
      Check.same("another of player " + card % 4, x.stake(card % 4 / 2, card), 2);
    }
    SnapshotArena again = wonByFirst();
    again.close(0);
    again.duel(0, 1);
    Check.same("the first one there, of one who staked elsewhere", again.stake(1, 4), 1);
  }

  private static void stakeOfABoughtCard() {
    Check.sentence("Terms: both stake cards that are free, not offered, and their own");
    SnapshotArena x = withPlayers(3);
    x.make(2, 0);
    x.make(0, 0);
    x.duel(0, 1);
    refuses(x, "stake of a card that is not bought yet", UNSUPPORTED, () -> x.stake(0, 0));
    sell(x, 0, 10, 1);
    sell(x, 1, 10, 2);
    Check.same("stake by the buyer", x.stake(0, 0), 1);
    refuses(x, "stake by the one who sold it", UNSUPPORTED, () -> x.stake(0, 1));
    refuses(x, "start without a card of the first", STATE, () -> x.start(0));
  }

  // ---- start

  private static void starting() {
    startOfNoDuel();
    startOfADuelNotOpen();
    startWithoutCards();
    startWithOneEach();
    stateAtTheStart();
  }

  private static void startOfNoDuel() {
    Check.sentence("Promise 13: Throws `IndexOutOfBoundsException` if there is no such duel");
    SnapshotArena none = withPlayers(2);
    refuses(none, "start of duel 0 of none", INDEX, () -> none.start(0));
    SnapshotArena x = staked(kinds(0), kinds(0));
    refusesOutside(x, "start", 1, INDEX, x::start);
  }

  private static void startOfADuelNotOpen() {
    Check.sentence("Promise 13: Throws `UnsupportedOperationException` if it is not open");
    SnapshotArena x = started(kinds(HURT_1_FREE), kinds(HURT_1_FREE));
    refuses(x, "start of one that goes on", UNSUPPORTED, () -> x.start(0));
    SnapshotArena won = wonByFirst();
    refuses(won, "start of one that has ended", UNSUPPORTED, () -> won.start(0));
    won.rollBack(0, 0);
    refuses(won, "start of one that goes on again", UNSUPPORTED, () -> won.start(0));
    SnapshotArena closed = wonByNobody();
    closed.close(0);
    refuses(closed, "start of a final one", UNSUPPORTED, () -> closed.start(0));
  }

  private static void startWithoutCards() {
    Check.sentence("Promise 13: Throws `IllegalStateException` if one of the players staked none");
    SnapshotArena none = staked(kinds(), kinds());
    refuses(none, "start without cards", STATE, () -> none.start(0));
    SnapshotArena first = staked(kinds(0, 0, 0, 0, 0, 0, 0, 0), kinds());
    refuses(first, "start with 8 cards of the first alone", STATE, () -> first.start(0));
    SnapshotArena second = staked(kinds(), kinds(0, 0, 0, 0, 0, 0, 0, 0));
    refuses(second, "start with 8 cards of the second alone", STATE, () -> second.start(0));
    second.stake(0, second.make(0, 0));
    Check.same("start with the missing card", second.start(0), 9);
  }

  private static void startWithOneEach() {
    Check.sentence("Promise 13: Returns how many cards are staked in it. (2 to 16)");
    for (int first = 1; first <= 8; first++) {
      for (int second = 1; second <= 8; second += 7) {
        SnapshotArena x = staked(new int[first], new int[second]);
        Check.same("start with " + first + " and " + second, x.start(0), first + second);
      }
    }
  }

  private static void stateAtTheStart() {
    Check.sentence("Terms: both have the life 10, the first one has the turn, and 1 mana");
    SnapshotArena x = withPlayers(3);
    x.duel(2, 1);
    int ofFirst = x.make(2, HURT_1_FREE);
    int ofSecond = x.make(1, HURT_1_FREE);
    x.stake(0, ofSecond);
    x.stake(0, ofFirst);
    x.start(0);
    lives(x, 10, 10);
    Check.same("mana", x.mana(0), 1);
    Check.same("depth", x.depth(0), 0);
    refuses(x, "the second one has not the turn", UNSUPPORTED, () -> x.play(0, ofSecond));
    Check.same("the first one has the turn", x.play(0, ofFirst), 1);
  }

  // ---- play

  private static void playing() {
    playOfNothing();
    playWhereNothingGoesOn();
    playByTheWrongOne();
    playTwice();
    playForTooMuch();
    playForAllMana();
    playAllCards();
  }

  private static void playOfNothing() {
    Check.sentence("Promise 14: Throws `IndexOutOfBoundsException` if there is no such duel or card");
    SnapshotArena x = started(kinds(0), kinds(0));
    refusesOutside(x, "play in duel", 1, INDEX, duel -> x.play(duel, 0));
    refusesOutside(x, "play of card", 2, INDEX, card -> x.play(0, card));
  }

  private static void playWhereNothingGoesOn() {
    Check.sentence("Promise 14: Throws `UnsupportedOperationException` if the duel does not go on");
    SnapshotArena open = staked(kinds(HURT_1_FREE), kinds(HURT_1_FREE));
    refuses(open, "play in an open duel", UNSUPPORTED, () -> open.play(0, 0));
    SnapshotArena x = started(kinds(HURT_1_FREE, HURT_1_FREE),
        kinds(HURT_4_FREE, HURT_4_FREE, HURT_4_FREE));
    endTurns(x, 0, 1);
    playAll(x, 2, 3, 4);
    x.endTurn(0);
    for (int c = 0; c < 2; c++) {
      int card = c;
      refuses(x, "play of an unplayed card, ended", UNSUPPORTED, () -> x.play(0, card));
    }
    x.close(0);
    refuses(x, "play of an unplayed card, final", UNSUPPORTED, () -> x.play(0, 0));
  }

  private static void playByTheWrongOne() {
    Check.sentence("Promise 14: or the card was not staked in it by the one who has the turn");
    SnapshotArena x = started(kinds(HURT_1_FREE), kinds(HURT_1_FREE));
    int ofFirst = x.make(0, HURT_1_FREE);
    int ofSecond = x.make(1, HURT_1_FREE);
    int ofThird = x.make(2, HURT_1_FREE);
    refuses(x, "the other's staked card", UNSUPPORTED, () -> x.play(0, 1));
    refuses(x, "a card that was not staked", UNSUPPORTED, () -> x.play(0, ofFirst));
    refuses(x, "the other's card that was not staked", UNSUPPORTED, () -> x.play(0, ofSecond));
    refuses(x, "a card of one who is not there", UNSUPPORTED, () -> x.play(0, ofThird));
    x.endTurn(0);
    refuses(x, "the first one's card in the second one's turn", UNSUPPORTED, () -> x.play(0, 0));
    refuses(x, "a card that the second did not stake", UNSUPPORTED, () -> x.play(0, ofSecond));
    Check.same("the second one's card", x.play(0, 1), 1);
  }

  private static void playTwice() {
    Check.sentence("Promise 14: or was played");
    SnapshotArena x = started(kinds(HURT_1_FREE, AWAY_FREE), kinds(HURT_1_FREE));
    playAll(x, 0, 1);
    refuses(x, "a card on the stack", UNSUPPORTED, () -> x.play(0, 0));
    refuses(x, "the last card on the stack", UNSUPPORTED, () -> x.play(0, 1));
    endTurns(x, 0, 2);
    refuses(x, "a card whose effect was taken away", UNSUPPORTED, () -> x.play(0, 0));
    refuses(x, "a card that was played in an earlier turn", UNSUPPORTED, () -> x.play(0, 1));
  }

  private static void playForTooMuch() {
    Check.sentence("Promise 14: Throws `IllegalStateException` if the mana is less than the cost");
    SnapshotArena x = started(kinds(AWAY_COST_2, HEAL_1_COST_1, HURT_2_COST_1, HURT_1_FREE),
        kinds(HURT_1_FREE));
    refuses(x, "a cost of 2 with 1 mana", STATE, () -> x.play(0, 0));
    Check.same("a cost of 1 with 1 mana", x.play(0, 1), 0);
    refuses(x, "a cost of 1 with no mana", STATE, () -> x.play(0, 2));
    refuses(x, "a cost of 2 with no mana", STATE, () -> x.play(0, 0));
    Check.same("no cost with no mana", x.play(0, 3), 0);
    endTurns(x, 0, 2);
    Check.same("a cost of 1 with 2 mana", x.play(0, 2), 1);
    refuses(x, "a cost of 2 with the 1 mana left", STATE, () -> x.play(0, 0));
  }

  private static void playForAllMana() {
    Check.sentence("Promise 14: Returns the mana that is left. (all, some, none)");
    SnapshotArena x = started(kinds(AWAY_COST_2, HURT_3_COST_2, 14, HURT_1_FREE, HURT_1_FREE),
        kinds(HURT_1_FREE));
    endTurns(x, 0, 10);
    Check.same("mana after 10 turns", x.mana(0), 6);
    Check.same("no cost of 6", x.play(0, 3), 6);
    Check.same("2 of 6", x.play(0, 0), 4);
    Check.same("2 of 4", x.play(0, 1), 2);
    Check.same("2 of 2", x.play(0, 2), 0);
    Check.same("no cost of none", x.play(0, 4), 0);
    Check.same("mana then", x.mana(0), 0);
  }

  private static void playAllCards() {
    Check.sentence("Terms: each puts its effect on the stack (8 at once)");
    SnapshotArena x = started(new int[8], new int[8]);
    endTurns(x, 0, 1);
    for (int card = 0; card < 8; card++) {
      Check.same("depth", x.depth(0), card);
      x.play(0, 8 + card);
    }
    Check.same("the deepest stack", x.depth(0), 8);
    lives(x, 10, 10);
    Check.sameChar("8 effects are done", x.endTurn(0), 'g');
    lives(x, 2, 10);
  }

  // ---- endTurn

  private static void turns() {
    endTurnOfNoDuel();
    endTurnWhereNothingGoesOn();
    turnWithoutCards();
    manaByTurns();
    manaIsNotKept();
    turnsOfOthersDoNotCount();
  }

  private static void endTurnOfNoDuel() {
    Check.sentence("Promise 15: Throws `IndexOutOfBoundsException` if there is no such duel");
    SnapshotArena none = withPlayers(2);
    refuses(none, "endTurn of duel 0 of none", INDEX, () -> none.endTurn(0));
    SnapshotArena x = started(kinds(0), kinds(0));
    refusesOutside(x, "endTurn", 1, INDEX, x::endTurn);
  }

  private static void endTurnWhereNothingGoesOn() {
    Check.sentence("Promise 15: Throws `UnsupportedOperationException` if it does not go on");
    SnapshotArena open = staked(kinds(0), kinds(0));
    refuses(open, "endTurn of an open duel", UNSUPPORTED, () -> open.endTurn(0));
    SnapshotArena x = wonByFirst();
    refuses(x, "endTurn of an ended duel", UNSUPPORTED, () -> x.endTurn(0));
    x.close(0);
    refuses(x, "endTurn of a final duel", UNSUPPORTED, () -> x.endTurn(0));
    SnapshotArena drawn = wonByNobody();
    refuses(drawn, "endTurn of a duel that nobody won", UNSUPPORTED, () -> drawn.endTurn(0));
  }

  private static void turnWithoutCards() {
    Check.sentence("Promise 15: Returns how the duel is then, 'g' or 'e'. (the empty stack)");
    SnapshotArena x = started(kinds(HURT_1_FREE), kinds(HURT_1_FREE));
    for (int turn = 0; turn < 30; turn++) {
      Check.sameChar("a turn without cards", x.endTurn(0), 'g');
    }
    lives(x, 10, 10);
    Check.same("the first one has the turn after 30", x.play(0, 0), 6);
    x.endTurn(0);
    x.play(0, 1);
    Check.sameChar("the turn with the last card", x.endTurn(0), 'e');
  }

  private static void manaByTurns() {
    Check.sentence("Terms: with as much mana as 1 plus half of the turns ended so far, this one "
        + "included, rounded down, at most 6");
    SnapshotArena x = started(kinds(0), kinds(0));
    int[] due = {1, 1, 2, 2, 3, 3, 4, 4, 5, 5, 6, 6, 6, 6, 6, 6};
    for (int turns = 0; turns < due.length; turns++) {
      Check.same("mana after " + turns + " turns", x.mana(0), due[turns]);
      x.endTurn(0);
    }
    for (int turns = due.length; turns < 300; turns++) {
      x.endTurn(0);
    }
    Check.same("mana after 300 turns", x.mana(0), 6);
  }

  private static void manaIsNotKept() {
    Check.sentence("Terms: the other player has the turn, with as much mana (whatever was left)");
    SnapshotArena x = started(kinds(HEAL_1_COST_1, HURT_1_FREE), kinds(HEAL_1_COST_1));
    x.play(0, 0);
    Check.same("nothing left", x.mana(0), 0);
    x.endTurn(0);
    Check.same("mana of the second when the first left none", x.mana(0), 1);
    x.endTurn(0);
    Check.same("mana of the first when the second left 1", x.mana(0), 2);
  }

  private static void turnsOfOthersDoNotCount() {
    Check.sentence("Terms: half of the turns ended so far (of this duel alone)");
    SnapshotArena x = withPlayers(4);
    for (int duel = 0; duel < 2; duel++) {
      x.duel(2 * duel, 2 * duel + 1);
      x.stake(duel, x.make(2 * duel, 0));
      x.stake(duel, x.make(2 * duel + 1, 0));
      x.start(duel);
    }
    endTurns(x, 0, 4);
    Check.same("mana of the duel with 4 turns", x.mana(0), 3);
    Check.same("mana of the other duel", x.mana(1), 1);
    Check.same("the other duel's first one has the turn", x.play(1, 2), 1);
  }

  // ---- the stack

  private static void stack() {
    fromTheLastToTheFirst();
    hurtByPower();
    healUpToTwenty();
    takeAway();
    addToTheNext();
    nothingNext();
    effectsOfTheSecond();
  }

  /** The first one plays these cards in this order in the first turn; the lives are as told then. */
  private static void answers(int first, int second, int... played) {
    SnapshotArena x = started(played, kinds(HURT_1_FREE));
    for (int card = 0; card < played.length; card++) {
      x.play(0, card);
    }
    Check.sameChar("the turn", x.endTurn(0), second <= 0 ? 'e' : 'g');
    lives(x, first, second);
    Check.same("depth", x.depth(0), 0);
  }

  private static void fromTheLastToTheFirst() {
    Check.sentence("Terms: The stack is done from the last effect put there to the first one.");
    answers(10, 5, HURT_1_FREE, ADD_4_FREE);
    answers(10, 9, ADD_4_FREE, HURT_1_FREE);
    answers(17, 9, HURT_1_FREE, HEAL_3_FREE, ADD_4_FREE);
    answers(13, 5, HEAL_3_FREE, HURT_1_FREE, ADD_4_FREE);
    answers(13, 10, HEAL_3_FREE, HURT_1_FREE, AWAY_FREE);
    answers(10, 9, HURT_1_FREE, HEAL_3_FREE, AWAY_FREE);
  }

  private static void hurtByPower() {
    Check.sentence("Terms: 0 hurts the other player of its player by its power");
    answers(10, 9, HURT_1_FREE);
    answers(10, 8, HURT_2_COST_1);
    answers(10, 6, HURT_4_FREE);
    SnapshotArena x = started(kinds(HURT_3_COST_2), kinds(HURT_1_FREE));
    endTurns(x, 0, 2);
    x.play(0, 0);
    x.endTurn(0);
    lives(x, 10, 7);
  }

  private static void healUpToTwenty() {
    Check.sentence("Terms: 1 heals its player by its power, up to 20");
    answers(11, 10, HEAL_1_COST_1);
    answers(14, 10, 13);
    answers(19, 10, HEAL_3_FREE, HEAL_3_FREE, HEAL_3_FREE);
    answers(20, 10, HEAL_3_FREE, HEAL_3_FREE, HEAL_3_FREE, HEAL_1_COST_1);
    answers(20, 10, HEAL_3_FREE, HEAL_3_FREE, HEAL_3_FREE, HEAL_3_FREE);
    answers(20, 10, HEAL_3_FREE, HEAL_3_FREE, HEAL_3_FREE, ADD_1_FREE);
    answers(20, 10, HEAL_3_FREE, ADD_4_FREE, ADD_4_FREE, ADD_4_FREE, ADD_4_FREE);
    SnapshotArena x = started(
        kinds(HEAL_3_FREE, HEAL_3_FREE, HEAL_3_FREE, HEAL_3_FREE, HEAL_3_FREE), kinds(HURT_1_FREE));
    playAll(x, 0, 1, 2, 3);
    x.endTurn(0);
    lives(x, 20, 10);
    x.play(0, 5);
    x.endTurn(0);
    lives(x, 19, 10);
    x.play(0, 4);
    x.endTurn(0);
    lives(x, 20, 10);
  }

  private static void takeAway() {
    Check.sentence("Terms: 2 takes the next effect that is to be done away, undone");
    answers(10, 10, HURT_4_FREE, AWAY_FREE);
    answers(10, 6, HURT_4_FREE, HURT_4_FREE, AWAY_FREE);
    answers(10, 6, HURT_4_FREE, AWAY_FREE, AWAY_FREE);
    answers(10, 10, HURT_4_FREE, AWAY_FREE, AWAY_FREE, AWAY_FREE);
    answers(10, 9, HURT_1_FREE, ADD_4_FREE, AWAY_FREE);
    answers(10, 9, HURT_1_FREE, HURT_4_FREE, AWAY_FREE, ADD_4_FREE);
  }

  private static void addToTheNext() {
    Check.sentence("Terms: 3 adds its power to that of the next effect that is to be done, whoever's "
        + "it is");
    answers(10, 8, HURT_1_FREE, ADD_1_FREE);
    answers(17, 10, HEAL_3_FREE, ADD_4_FREE);
    answers(10, 8, HURT_1_FREE, HURT_1_FREE, HURT_4_FREE, AWAY_FREE, ADD_4_FREE);
    answers(10, 4, HURT_1_FREE, HURT_1_FREE, ADD_4_FREE);
    answers(10, 4, HURT_1_FREE, ADD_1_FREE, ADD_4_FREE);
    answers(10, 1, HURT_1_FREE, ADD_4_FREE, ADD_4_FREE);
    answers(10, 3, HURT_1_FREE, ADD_1_FREE, HURT_1_FREE, ADD_4_FREE);
  }

  private static void nothingNext() {
    Check.sentence("Terms: the next effect that is to be done (when there is none)");
    answers(10, 10, AWAY_FREE);
    answers(10, 10, AWAY_FREE, AWAY_FREE);
    answers(10, 10, AWAY_FREE, AWAY_FREE, AWAY_FREE);
    answers(10, 10, ADD_4_FREE);
    answers(10, 10, ADD_4_FREE, ADD_4_FREE);
    answers(10, 10, ADD_4_FREE, AWAY_FREE);
    answers(10, 10, AWAY_FREE, ADD_4_FREE);
    addedPowerEndsWithTheTurn();
  }

  private static void addedPowerEndsWithTheTurn() {
    SnapshotArena x = started(kinds(ADD_4_FREE), kinds(HURT_1_FREE));
    x.play(0, 0);
    x.endTurn(0);
    x.play(0, 1);
    x.endTurn(0);
    lives(x, 9, 10);
  }

  private static void effectsOfTheSecond() {
    Check.sentence("Terms: each puts its effect on the stack, with its power and its player (of the "
        + "second)");
    SnapshotArena x = started(kinds(HURT_1_FREE), kinds(HURT_4_FREE, HEAL_3_FREE, ADD_4_FREE,
        HEAL_3_FREE, AWAY_FREE));
    endTurns(x, 0, 1);
    playAll(x, 1, 2, 3, 4, 5);
    x.endTurn(0);
    lives(x, 6, 17);
  }

  // ---- the end by life

  private static void lifeGone() {
    lifeOfOneAndZero();
    lifeStaysAsItIs();
    restIsNotDone();
    endsAtOnce();
    cardsOfTheEnd();
  }

  private static void lifeOfOneAndZero() {
    Check.sentence("Terms: When a life is 0 or less");
    answers(10, 1, HURT_1_FREE, HURT_4_FREE, HURT_4_FREE);
    answers(10, 0, HURT_2_COST_1, HURT_4_FREE, HURT_4_FREE);
    answers(10, -2, HURT_4_FREE, HURT_4_FREE, HURT_4_FREE);
    lifeOfTheFirst(1, 'g', HURT_4_FREE, HURT_4_FREE, HURT_1_FREE);
    lifeOfTheFirst(0, 'e', HURT_4_FREE, HURT_4_FREE, HURT_1_FREE, HURT_1_FREE);
    lifeOfTheFirst(-1, 'e', HURT_4_FREE, HURT_4_FREE, HURT_1_FREE, ADD_1_FREE, ADD_1_FREE);
  }

  private static void lifeOfTheFirst(int life, char state, int... ofSecond) {
    SnapshotArena x = started(kinds(HURT_1_FREE), ofSecond);
    endTurns(x, 0, 1);
    for (int card = 1; card <= ofSecond.length; card++) {
      x.play(0, card);
    }
    Check.sameChar("the second one's turn", x.endTurn(0), state);
    lives(x, life, 10);
    if (state == 'e') {
      Check.same("the other one wins", x.winner(0), 1);
      Check.same("a card of the first", x.ownerOf(0), 1);
    }
  }

  private static void lifeStaysAsItIs() {
    Check.sentence("Terms: it stays as it is");
    answers(10, -7, HURT_1_FREE, ADD_4_FREE, ADD_4_FREE, ADD_4_FREE, ADD_4_FREE);
    answers(10, -19, HURT_1_FREE, ADD_4_FREE, ADD_4_FREE, ADD_4_FREE, ADD_4_FREE, ADD_4_FREE,
        ADD_4_FREE, ADD_4_FREE);
    SnapshotArena x = wonByFirst();
    lives(x, 10, -2);
    x.close(0);
    lives(x, 10, -2);
  }

  private static void restIsNotDone() {
    Check.sentence("Terms: what is left on the stack is not done and gone");
    answers(10, -2, HURT_4_FREE, HURT_4_FREE, HURT_4_FREE, HURT_4_FREE, HURT_4_FREE);
    answers(10, 0, HEAL_3_FREE, HURT_2_COST_1, HURT_4_FREE, HURT_4_FREE);
    answers(13, 0, HURT_4_FREE, HURT_2_COST_1, HURT_4_FREE, HURT_4_FREE, HEAL_3_FREE);
    SnapshotArena x = started(new int[] {12, 12, 12, 12, 12, 12, 12, 12}, kinds(HURT_1_FREE));
    x.snapshot(0);
    playAll(x, 0, 1, 2, 3, 4, 5, 6, 7);
    Check.sameChar("three of eight effects end it", x.endTurn(0), 'e');
    Check.same("depth", x.depth(0), 0);
    lives(x, 10, -2);
    x.rollBack(0, 0);
    x.play(0, 0);
    x.endTurn(0);
    lives(x, 10, 6);
  }

  private static void endsAtOnce() {
    Check.sentence("Terms: the duel ends at once [..]: the other player wins");
    SnapshotArena x = started(kinds(HURT_4_FREE, HURT_4_FREE, HURT_2_COST_1), kinds(HURT_1_FREE));
    playAll(x, 0, 1, 2);
    refuses(x, "no winner ahead of the turn's end", NO_ELEMENT, () -> x.winner(0));
    Check.sameChar("the turn", x.endTurn(0), 'e');
    Check.same("the one whose life is not gone", x.winner(0), 0);
    refuses(x, "the other has no turn", UNSUPPORTED, () -> x.play(0, 3));
    SnapshotArena last = started(kinds(HURT_1_FREE), kinds(HURT_4_FREE, HURT_4_FREE, HURT_2_COST_1));
    last.play(0, 0);
    last.endTurn(0);
    playAll(last, 1, 2, 3);
    Check.sameChar("with the last cards of all", last.endTurn(0), 'e');
    lives(last, 0, 9);
    Check.same("the second wins with the last cards of all", last.winner(0), 1);
  }

  private static void cardsOfTheEnd() {
    Check.sentence("Terms: all cards that were staked in it go to the winner, if there is one, and "
        + "are won");
    SnapshotArena x = started(kinds(HURT_4_FREE, HURT_4_FREE, HURT_4_FREE, 1, 2, 3, 4, 5), new int[8]);
    int notStaked = x.make(1, 0);
    playAll(x, 0, 1, 2);
    x.endTurn(0);
    for (int card = 0; card < 16; card++) {
      Check.same("owner of card " + card, x.ownerOf(card), 0);
      Check.sameChar("card " + card + ", played or not", x.stateOf(card), 'w');
    }
    Check.same("owner of a card that was not staked", x.ownerOf(notStaked), 1);
    Check.sameChar("a card that was not staked", x.stateOf(notStaked), '-');
    Check.same("cards of the winner", x.cardsOf(0), 16);
    Check.same("a posting for each of the loser's cards", x.postings(), 17 + 8);
    for (int card = 8; card < 16; card++) {
      postingIs(x, 17 + card - 8, card, 1, 0);
    }
  }

  // ---- the end by all cards played

  private static void allPlayed() {
    nothingLeft();
    moreLife();
    asMuchLife();
    withoutAWinner();
  }

  private static void nothingLeft() {
    Check.sentence("Terms: When nothing is left that either player could ever play, both having "
        + "played all cards [..] as the turn ends");
    SnapshotArena x = started(kinds(HURT_1_FREE), kinds(HURT_1_FREE, AWAY_COST_2));
    x.play(0, 0);
    Check.sameChar("the first one has none left", x.endTurn(0), 'g');
    Check.same("one of the second's", x.play(0, 1), 1);
    Check.sameChar("the second one has one that costs too much yet", x.endTurn(0), 'g');
    Check.sameChar("the first one has nothing to play", x.endTurn(0), 'g');
    Check.same("the last card of all", x.play(0, 2), 0);
    Check.sameChar("not ahead of the turn's end", x.duelState(0), 'g');
    Check.sameChar("as the turn ends", x.endTurn(0), 'e');
    SnapshotArena first = started(kinds(HURT_1_FREE, HURT_1_FREE), kinds(HURT_1_FREE));
    first.play(0, 0);
    first.endTurn(0);
    first.play(0, 2);
    Check.sameChar("the second one has none left", first.endTurn(0), 'g');
    first.play(0, 1);
    Check.sameChar("the last card is the first one's", first.endTurn(0), 'e');
    Check.same("the first one hurt twice", first.winner(0), 0);
    eighthCardsLeft();
  }

  private static void eighthCardsLeft() {
    int[] away = {6, 6, 6, 6, 6, 6, 6, 6};
    SnapshotArena x = started(away, away);
    playAll(x, 0, 1, 2, 3, 4, 5, 6);
    x.endTurn(0);
    playAll(x, 8, 9, 10, 11, 12, 13, 14);
    Check.sameChar("the 8th card of each is left", x.endTurn(0), 'g');
    x.play(0, 7);
    Check.sameChar("the 8th card of the second is left", x.endTurn(0), 'g');
    x.play(0, 15);
    Check.sameChar("all 16 are played", x.endTurn(0), 'e');
  }

  private static void moreLife() {
    Check.sentence("Terms: the one with more life wins as the turn ends");
    endsWith(kinds(HURT_2_COST_1), kinds(HURT_1_FREE), 0);
    endsWith(kinds(HURT_1_FREE), kinds(HURT_2_COST_1), 1);
    endsWith(kinds(HEAL_1_COST_1), kinds(AWAY_FREE), 0);
    endsWith(kinds(AWAY_FREE), kinds(HEAL_1_COST_1), 1);
  }

  private static SnapshotArena endsWith(int[] ofFirst, int[] ofSecond, int winner) {
    SnapshotArena x = started(ofFirst, ofSecond);
    x.play(0, 0);
    x.endTurn(0);
    x.play(0, 1);
    Check.sameChar("all played", x.endTurn(0), 'e');
    Check.same("winner", x.winner(0), winner);
    return x;
  }

  private static void asMuchLife() {
    Check.sentence("Terms: if both have as much, nobody does");
    endsWith(kinds(HURT_1_FREE), kinds(HURT_1_FREE), -1);
    endsWith(kinds(HEAL_3_FREE), kinds(HEAL_3_FREE), -1);
    endsWith(kinds(AWAY_FREE), kinds(ADD_1_FREE), -1);
  }

  private static void withoutAWinner() {
    Check.sentence("Terms: without a winner, they are won by their owners, who keep them");
    SnapshotArena x = endsWith(kinds(HURT_4_FREE), kinds(HURT_4_FREE), -1);
    for (int card = 0; card < 2; card++) {
      Check.sameChar("card " + card, x.stateOf(card), 'w');
      Check.same("owner of card " + card, x.ownerOf(card), card);
      Check.same("cards of player " + card, x.cardsOf(card), 1);
    }
    Check.same("no posting", x.postings(), 2);
    sell(x, 1, 40, 0);
    Check.same("the price is apart, as the card is won", x.apart(), 40);
    Check.same("close", x.close(0), 2);
    Check.same("the seller is paid", x.coinsOf(1), 136);
  }

  // ---- duelState, life, mana, depth, winner

  private static void asking() {
    duelStateOfNoDuel();
    duelStateAtEachStep();
    lifeOfNoDuel();
    lifeAheadOfTheStart();
    manaOfNoDuel();
    manaWhereNothingGoesOn();
    depthOfNoDuel();
    depthOfNothing();
    winnerOfNoDuel();
    winnerBeforeTheEnd();
    winnerOfNobody();
  }

  private static void duelStateOfNoDuel() {
    Check.sentence("Promise 16: Throws `IndexOutOfBoundsException` if there is no such duel");
    SnapshotArena none = withPlayers(2);
    refuses(none, "duelState of duel 0 of none", INDEX, () -> none.duelState(0));
    SnapshotArena x = wonByFirst();
    refusesOutside(x, "duelState", 1, INDEX, x::duelState);
    Check.sameChar("the only duel", x.duelState(0), 'e');
  }

  private static void duelStateAtEachStep() {
    Check.sentence("Promise 16: Returns 'o', 'g', 'e' or 'f'.");
    SnapshotArena x = withPlayers(2);
    x.duel(0, 1);
    Check.sameChar("opened", x.duelState(0), 'o');
    x.stake(0, x.make(0, HURT_1_FREE));
    x.stake(0, x.make(1, HURT_1_FREE));
    Check.sameChar("staked", x.duelState(0), 'o');
    x.start(0);
    Check.sameChar("started", x.duelState(0), 'g');
    x.snapshot(0);
    x.play(0, 0);
    x.endTurn(0);
    Check.sameChar("a turn later", x.duelState(0), 'g');
    x.play(0, 1);
    x.endTurn(0);
    Check.sameChar("all played", x.duelState(0), 'e');
    x.rollBack(0, 0);
    Check.sameChar("rolled back", x.duelState(0), 'g');
    x.play(0, 0);
    x.endTurn(0);
    x.play(0, 1);
    x.endTurn(0);
    Check.sameChar("all played again", x.duelState(0), 'e');
    x.close(0);
    Check.sameChar("closed", x.duelState(0), 'f');
  }

  private static void lifeOfNoDuel() {
    Check.sentence("Promise 17: Throws `IndexOutOfBoundsException` if there is no such duel");
    SnapshotArena none = withPlayers(2);
    refuses(none, "life in duel 0 of none", INDEX, () -> none.life(0, false));
    SnapshotArena x = wonByFirst();
    refusesOutside(x, "life of the first in duel", 1, INDEX, duel -> x.life(duel, false));
    refusesOutside(x, "life of the second in duel", 1, INDEX, duel -> x.life(duel, true));
  }

  private static void lifeAheadOfTheStart() {
    Check.sentence("Promise 17: Returns the life of a player of a duel, 10 ahead of its start.");
    SnapshotArena x = staked(kinds(), kinds());
    lives(x, 10, 10);
    x.stake(0, x.make(0, HURT_4_FREE));
    lives(x, 10, 10);
    x.stake(0, x.make(1, HURT_1_FREE));
    x.start(0);
    lives(x, 10, 10);
    x.play(0, 0);
    lives(x, 10, 10);
    x.endTurn(0);
    lives(x, 10, 6);
  }

  private static void manaOfNoDuel() {
    Check.sentence("Promise 18: Throws `IndexOutOfBoundsException` if there is no such duel");
    SnapshotArena none = withPlayers(2);
    refuses(none, "mana in duel 0 of none", INDEX, () -> none.mana(0));
    SnapshotArena x = started(kinds(0), kinds(0));
    refusesOutside(x, "mana", 1, INDEX, x::mana);
  }

  private static void manaWhereNothingGoesOn() {
    Check.sentence("Promise 18: Throws `UnsupportedOperationException` if it does not go on");
    SnapshotArena open = staked(kinds(0), kinds(0));
    refuses(open, "mana of an open duel", UNSUPPORTED, () -> open.mana(0));
    SnapshotArena x = wonByFirst();
    refuses(x, "mana of an ended duel", UNSUPPORTED, () -> x.mana(0));
    x.rollBack(0, 0);
    Check.same("mana when it goes on again", x.mana(0), 1);
    SnapshotArena closed = wonByNobody();
    closed.close(0);
    refuses(closed, "mana of a final duel", UNSUPPORTED, () -> closed.mana(0));
  }

  private static void depthOfNoDuel() {
    Check.sentence("Promise 19: Throws `IndexOutOfBoundsException` if there is no such duel");
    SnapshotArena none = withPlayers(2);
    refuses(none, "depth in duel 0 of none", INDEX, () -> none.depth(0));
    SnapshotArena x = started(kinds(0), kinds(0));
    refusesOutside(x, "depth", 1, INDEX, x::depth);
  }

  private static void depthOfNothing() {
    Check.sentence("Promise 19: Returns how many effects are on it. (none, in whatever state)");
    Check.same("open", staked(kinds(0), kinds(0)).depth(0), 0);
    Check.same("started", started(kinds(0), kinds(0)).depth(0), 0);
    SnapshotArena x = wonByFirst();
    Check.same("ended", x.depth(0), 0);
    x.close(0);
    Check.same("final", x.depth(0), 0);
    Check.same("ended by all played", wonByNobody().depth(0), 0);
  }

  private static void winnerOfNoDuel() {
    Check.sentence("Promise 20: Throws `IndexOutOfBoundsException` if there is no such duel");
    SnapshotArena none = withPlayers(2);
    refuses(none, "winner of duel 0 of none", INDEX, () -> none.winner(0));
    SnapshotArena x = wonByFirst();
    refusesOutside(x, "winner", 1, INDEX, x::winner);
  }

  private static void winnerBeforeTheEnd() {
    Check.sentence("Promise 20: Throws `NoSuchElementException` if it has not ended");
    SnapshotArena x = staked(kinds(HURT_1_FREE), kinds(HURT_2_COST_1));
    refuses(x, "winner of an open duel", NO_ELEMENT, () -> x.winner(0));
    x.start(0);
    x.snapshot(0);
    refuses(x, "winner of a duel that goes on", NO_ELEMENT, () -> x.winner(0));
    x.play(0, 0);
    x.endTurn(0);
    x.play(0, 1);
    x.endTurn(0);
    Check.same("winner of an ended duel", x.winner(0), 1);
    x.rollBack(0, 0);
    refuses(x, "winner of a duel that goes on again", NO_ELEMENT, () -> x.winner(0));
    x.play(0, 0);
    x.endTurn(0);
    x.play(0, 1);
    x.endTurn(0);
    x.close(0);
    Check.same("winner of a final duel", x.winner(0), 1);
  }

  private static void winnerOfNobody() {
    Check.sentence("Promise 20: Returns the player, or -1 if nobody won.");
    SnapshotArena x = wonByNobody();
    Check.same("nobody", x.winner(0), -1);
    x.close(0);
    Check.same("nobody, final", x.winner(0), -1);
    SnapshotArena other = withPlayers(6);
    endedDuel(other, 5, 3);
    Check.same("the player, and not the place", other.winner(0), 5);
    Check.same("loser's card", other.ownerOf(1), 5);
  }

  // ---- close

  private static void closing() {
    closeOfNoDuel();
    closeOfWhatHasNotEnded();
    cardsBecomeFree();
    sellersArePaid();
  }

  private static void closeOfNoDuel() {
    Check.sentence("Promise 21: Throws `IndexOutOfBoundsException` if there is no such duel");
    SnapshotArena none = withPlayers(2);
    refuses(none, "close of duel 0 of none", INDEX, () -> none.close(0));
    SnapshotArena x = wonByFirst();
    refusesOutside(x, "close", 1, INDEX, x::close);
  }

  private static void closeOfWhatHasNotEnded() {
    Check.sentence("Promise 21: Throws `UnsupportedOperationException` if it has not ended, or is "
        + "final");
    SnapshotArena x = staked(kinds(0), kinds(0));
    refuses(x, "close of an open duel", UNSUPPORTED, () -> x.close(0));
    x.start(0);
    refuses(x, "close of a duel that goes on", UNSUPPORTED, () -> x.close(0));
    SnapshotArena won = wonByFirst();
    won.rollBack(0, 0);
    refuses(won, "close of a duel that goes on again", UNSUPPORTED, () -> won.close(0));
    playAll(won, 0, 1, 2);
    won.endTurn(0);
    sell(won, 3, 20, 2);
    won.close(0);
    refuses(won, "close of a final duel", UNSUPPORTED, () -> won.close(0));
  }

  private static void cardsBecomeFree() {
    Check.sentence("Promise 21: Returns how many cards became free. (2 to 16)");
    Check.same("two cards", wonByNobody().close(0), 2);
    SnapshotArena x = started(kinds(12, 12, 12, 0, 0, 0, 0, 0), new int[8]);
    playAll(x, 0, 1, 2);
    x.endTurn(0);
    sell(x, 15, 10, 1);
    sell(x, 0, 10, 2);
    Check.same("16 cards, sold or not", x.close(0), 16);
    for (int card = 0; card < 16; card++) {
      Check.sameChar("card " + card, x.stateOf(card), '-');
    }
    Check.same("owner of a sold card", x.ownerOf(15), 1);
    Check.same("owner of another sold card", x.ownerOf(0), 2);
    Check.same("owner of a card that was not sold", x.ownerOf(8), 0);
  }

  private static void sellersArePaid() {
    Check.sentence("Terms: its cards are free, and what was paid for those that were sold goes to "
        + "their sellers");
    SnapshotArena x = wonByFirst();
    sell(x, 3, 1, 1);
    sell(x, 3, 10, 2);
    sell(x, 3, 11, 0);
    Check.same("apart", x.apart(), 22);
    Check.same("coins of player 0", x.coinsOf(0), 89);
    Check.same("coins of player 1", x.coinsOf(1), 99);
    Check.same("coins of player 2", x.coinsOf(2), 90);
    x.close(0);
    Check.same("nothing is apart", x.apart(), 0);
    Check.same("a price of 1 is the fee alone", x.coinsOf(0), 89);
    Check.same("9 of 10", x.coinsOf(1), 99 + 9);
    Check.same("9 of 11", x.coinsOf(2), 90 + 9);
    Check.same("fees of 1, 1 and 2", x.house(), 4);
  }
}
