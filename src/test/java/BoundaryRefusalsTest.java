/**
 * Calls to which several exceptions apply, and what an object does in its last calls: "If several
 * exceptions apply, the exception listed first is thrown", for each two that can apply at once.
 */
public final class BoundaryRefusalsTest extends Scene {
  public static void main(String[] args) {
    players();
    duels();
    duelsThatGoOn();
    rollBacks();
    market();
    changesNothing();
    lastCalls();
    Check.finish("BoundaryRefusalsTest");
  }

  // ---- players and cards

  private static void players() {
    playerOutOfRangeAndFull();
    makeForNobodyOfNoKind();
    makeForNobodyWhenFull();
    makeOfNoKindWhenFull();
    postingOfNothing();
  }

  private static void playerOutOfRangeAndFull() {
    Check.sentence("player: out of range ahead of 6 players");
    SnapshotArena x = withPlayers(6);
    refuses(x, "-1 coins", ARGUMENT, () -> x.player(-1));
    refuses(x, "1000 coins", ARGUMENT, () -> x.player(1000));
  }

  private static SnapshotArena allCards() {
    SnapshotArena x = withPlayers(6);
    for (int card = 0; card < 40; card++) {
      x.make(card % 6, 0);
    }
    return x;
  }

  private static void makeForNobodyOfNoKind() {
    Check.sentence("make: no such player ahead of no such kind");
    SnapshotArena x = withPlayers(2);
    refuses(x, "player 2, kind 16", INDEX, () -> x.make(2, 16));
    refuses(x, "player -1, kind -1", INDEX, () -> x.make(-1, -1));
  }

  private static void makeForNobodyWhenFull() {
    Check.sentence("make: no such player ahead of 40 cards");
    SnapshotArena x = allCards();
    refuses(x, "player 6", INDEX, () -> x.make(6, 0));
    refuses(x, "player -1, kind 16", INDEX, () -> x.make(-1, 16));
  }

  private static void makeOfNoKindWhenFull() {
    Check.sentence("make: no such kind ahead of 40 cards");
    SnapshotArena x = allCards();
    refuses(x, "kind 16", ARGUMENT, () -> x.make(0, 16));
    refuses(x, "kind -1", ARGUMENT, () -> x.make(0, -1));
  }

  private static void postingOfNothing() {
    Check.sentence("posting: no such posting ahead of no such thing");
    SnapshotArena x = withPlayers(1);
    refuses(x, "posting 0 of none, x", INDEX, () -> x.posting(0, 'x'));
    x.make(0, 0);
    refuses(x, "posting 1, x", INDEX, () -> x.posting(1, 'x'));
    refuses(x, "posting -1, x", INDEX, () -> x.posting(-1, 'x'));
  }

  // ---- duels

  private static void duels() {
    duelOfNobodyTwice();
    duelOfNobodyAndABusyOne();
    duelWithOneselfWhenBusy();
    duelsWhenFull();
    stakeOfNothing();
    stakeNotOpenAndNotFree();
    stakeByNoneAndNotFree();
    startOfNothing();
  }

  private static void duelOfNobodyTwice() {
    Check.sentence("duel: no such player ahead of both the same");
    SnapshotArena x = withPlayers(2);
    refuses(x, "2 and 2", INDEX, () -> x.duel(2, 2));
    refuses(x, "-1 and -1", INDEX, () -> x.duel(-1, -1));
  }

  private static void duelOfNobodyAndABusyOne() {
    Check.sentence("duel: no such player ahead of one that is in a duel");
    SnapshotArena x = staked(kinds(), kinds());
    refuses(x, "a busy one and nobody", INDEX, () -> x.duel(0, 3));
    refuses(x, "nobody and a busy one", INDEX, () -> x.duel(-1, 1));
  }

  private static void duelWithOneselfWhenBusy() {
    Check.sentence("duel: both the same ahead of one that is in a duel");
    SnapshotArena x = staked(kinds(), kinds());
    refuses(x, "the first twice", ARGUMENT, () -> x.duel(0, 0));
    refuses(x, "the second twice", ARGUMENT, () -> x.duel(1, 1));
  }

  private static void duelsWhenFull() {
    Check.sentence("duel: no such player, and both the same, ahead of 8 duels");
    SnapshotArena x = withPlayers(2);
    for (int duel = 0; duel < 8; duel++) {
      endedDuel(x, 0, 1);
    }
    refuses(x, "nobody", INDEX, () -> x.duel(0, 2));
    refuses(x, "nobody first", INDEX, () -> x.duel(-1, 0));
    refuses(x, "both the same", ARGUMENT, () -> x.duel(1, 1));
    refuses(x, "two that could", STATE, () -> x.duel(1, 0));
  }

  private static void stakeOfNothing() {
    Check.sentence("stake: no such duel or card ahead of all else");
    SnapshotArena x = started(kinds(0), kinds(0));
    refuses(x, "no card, a duel that goes on", INDEX, () -> x.stake(0, 2));
    refuses(x, "no duel, a staked card", INDEX, () -> x.stake(1, 0));
    refuses(x, "no duel, no card", INDEX, () -> x.stake(-1, -1));
    x.make(2, 0);
    refuses(x, "no duel, a card of one who is in none", INDEX, () -> x.stake(1, 2));
    SnapshotArena closed = wonByFirst();
    closed.close(0);
    refuses(closed, "no card, a final duel", INDEX, () -> closed.stake(0, -1));
  }

  private static void stakeNotOpenAndNotFree() {
    Check.sentence("stake: a duel that is not open ahead of a card that is not free, or is offered");
    SnapshotArena x = started(new int[8], new int[8]);
    int ninth = x.make(0, 0);
    refuses(x, "a staked card, goes on", UNSUPPORTED, () -> x.stake(0, 0));
    refuses(x, "a 9th card, goes on", UNSUPPORTED, () -> x.stake(0, ninth));
    x.offer(ninth, 1);
    refuses(x, "an offered card, goes on", UNSUPPORTED, () -> x.stake(0, ninth));
    SnapshotArena won = wonByFirst();
    refuses(won, "a won card, ended", UNSUPPORTED, () -> won.stake(0, 0));
  }

  private static void stakeByNoneAndNotFree() {
    Check.sentence("stake: an owner who is none of its players ahead of a card that is not free, or "
        + "is offered");
    SnapshotArena x = withPlayers(4);
    for (int card = 0; card < 4; card++) {
      x.make(card, 0);
    }
    x.duel(0, 1);
    x.duel(2, 3);
    x.stake(1, 2);
    x.offer(3, 1);
    refuses(x, "a staked card of another duel", UNSUPPORTED, () -> x.stake(0, 2));
    refuses(x, "an offered card of another", UNSUPPORTED, () -> x.stake(0, 3));
    SnapshotArena won = wonByFirst();
    won.duel(1, 2);
    refuses(won, "a won card of another", UNSUPPORTED, () -> won.stake(1, 3));
  }

  private static void startOfNothing() {
    Check.sentence("start: no such duel ahead of all else");
    SnapshotArena x = staked(kinds(), kinds());
    refuses(x, "no duel beside one without cards", INDEX, () -> x.start(1));
    x.stake(0, x.make(0, 0));
    x.stake(0, x.make(1, 0));
    x.start(0);
    refuses(x, "no duel beside one that goes on", INDEX, () -> x.start(1));
  }

  // ---- duels that go on

  private static void duelsThatGoOn() {
    playOfNothing();
    playNotGoingOnWithoutMana();
    playByTheOtherWithoutMana();
    playAgainWithoutMana();
    callsOfNoDuel();
    snapshotEndedAndFull();
    inSnapshotOfNothing();
  }

  private static void playOfNothing() {
    Check.sentence("play: no such duel or card ahead of all else");
    SnapshotArena open = staked(kinds(AWAY_COST_2), kinds(0));
    refuses(open, "no card, an open duel", INDEX, () -> open.play(0, 2));
    refuses(open, "no duel, a card that costs too much", INDEX, () -> open.play(1, 0));
    SnapshotArena ended = wonByFirst();
    refuses(ended, "no card, an ended duel", INDEX, () -> ended.play(0, -1));
    refuses(ended, "no duel, no card", INDEX, () -> ended.play(1, 5));
  }

  private static void playNotGoingOnWithoutMana() {
    Check.sentence("play: a duel that does not go on ahead of too little mana");
    SnapshotArena open = staked(kinds(AWAY_COST_2), kinds(0));
    refuses(open, "a cost of 2 in an open duel", UNSUPPORTED, () -> open.play(0, 0));
    SnapshotArena x = started(kinds(HURT_4_FREE, HURT_4_FREE, HURT_2_COST_1, HEAL_1_COST_1),
        kinds(AWAY_COST_2));
    playAll(x, 0, 1, 2);
    x.endTurn(0);
    refuses(x, "a cost of 1 in an ended duel", UNSUPPORTED, () -> x.play(0, 3));
    refuses(x, "a cost of 2 in an ended duel", UNSUPPORTED, () -> x.play(0, 4));
  }

  private static void playByTheOtherWithoutMana() {
    Check.sentence("play: a card of one who has not the turn ahead of too little mana");
    SnapshotArena x = started(kinds(HURT_1_FREE), kinds(AWAY_COST_2));
    refuses(x, "a cost of 2 by the other", UNSUPPORTED, () -> x.play(0, 1));
    int notStaked = x.make(0, AWAY_COST_2);
    refuses(x, "a cost of 2, not staked", UNSUPPORTED, () -> x.play(0, notStaked));
  }

  private static void playAgainWithoutMana() {
    Check.sentence("play: a card that was played ahead of too little mana");
    SnapshotArena x = started(kinds(HEAL_1_COST_1, HURT_1_FREE), kinds(HURT_1_FREE));
    x.play(0, 0);
    refuses(x, "a cost of 1 with no mana", UNSUPPORTED, () -> x.play(0, 0));
  }

  private static void callsOfNoDuel() {
    Check.sentence("endTurn, mana, winner, close, snapshot: no such duel ahead of all else");
    SnapshotArena x = staked(kinds(0), kinds(0));
    refuses(x, "endTurn beside an open one", INDEX, () -> x.endTurn(1));
    refuses(x, "mana beside an open one", INDEX, () -> x.mana(1));
    refuses(x, "winner beside an open one", INDEX, () -> x.winner(1));
    refuses(x, "close beside an open one", INDEX, () -> x.close(1));
    refuses(x, "snapshot beside an open one", INDEX, () -> x.snapshot(1));
    x.start(0);
    for (int i = 0; i < 6; i++) {
      x.snapshot(0);
    }
    refuses(x, "snapshot beside one with 6", INDEX, () -> x.snapshot(1));
    refuses(x, "winner beside one that goes on", INDEX, () -> x.winner(-1));
    refuses(x, "close beside one that goes on", INDEX, () -> x.close(-1));
  }

  private static void snapshotEndedAndFull() {
    Check.sentence("snapshot: a duel that does not go on ahead of 6 snapshots");
    SnapshotArena x = started(kinds(HURT_1_FREE), kinds(HURT_1_FREE));
    for (int i = 0; i < 6; i++) {
      x.snapshot(0);
    }
    x.play(0, 0);
    x.endTurn(0);
    x.play(0, 1);
    x.endTurn(0);
    refuses(x, "a 7th snapshot of an ended duel", UNSUPPORTED, () -> x.snapshot(0));
    x.close(0);
    refuses(x, "a 7th snapshot of a final duel", UNSUPPORTED, () -> x.snapshot(0));
  }

  private static void inSnapshotOfNothing() {
    Check.sentence("inSnapshot: no such duel, snapshot and place at once");
    SnapshotArena x = wonByFirst();
    refuses(x, "no duel, no snapshot", INDEX, () -> x.inSnapshot(1, 1, 0));
    refuses(x, "no duel, no place", INDEX, () -> x.inSnapshot(-1, 0, 24));
    refuses(x, "no snapshot, no place", INDEX, () -> x.inSnapshot(0, -1, -1));
    refuses(x, "nothing", INDEX, () -> x.inSnapshot(8, 6, 24));
  }

  // ---- rollBack

  private static void rollBacks() {
    rollBackToNothingWhenFinal();
    rollBackToNothingWhenBusy();
    rollBackWhenFinalAndBusy();
  }

  private static void rollBackToNothingWhenFinal() {
    Check.sentence("rollBack: no such duel or snapshot ahead of one that is open or final");
    SnapshotArena x = wonByFirst();
    x.close(0);
    refuses(x, "no snapshot, final", INDEX, () -> x.rollBack(0, 1));
    refuses(x, "snapshot -1, final", INDEX, () -> x.rollBack(0, -1));
    refuses(x, "no duel", INDEX, () -> x.rollBack(1, 0));
    x.duel(0, 1);
    refuses(x, "no snapshot, open", INDEX, () -> x.rollBack(1, 0));
  }

  private static void rollBackToNothingWhenBusy() {
    Check.sentence("rollBack: no such duel or snapshot ahead of a player who is in another duel");
    SnapshotArena x = wonByFirst();
    x.duel(1, 2);
    refuses(x, "no snapshot", INDEX, () -> x.rollBack(0, 1));
    refuses(x, "no duel", INDEX, () -> x.rollBack(2, 0));
    refuses(x, "snapshot 0", STATE, () -> x.rollBack(0, 0));
  }

  private static void rollBackWhenFinalAndBusy() {
    Check.sentence("rollBack: a final duel ahead of a player who is in another duel");
    SnapshotArena x = wonByFirst();
    x.close(0);
    x.duel(1, 2);
    refuses(x, "a final duel", UNSUPPORTED, () -> x.rollBack(0, 0));
  }

  // ---- market

  private static void market() {
    offerOfNothing();
    offerAtAWrongPriceWhenStaked();
    offersWhenFull();
    withdrawOfNothing();
    buyByNobody();
    buyOfWhatIsNotOpenWithoutCoins();
    buyOfOnesOwnWithoutCoins();
  }

  private static void offerOfNothing() {
    Check.sentence("offer: no such card ahead of a wrong price");
    SnapshotArena x = staked(kinds(0), kinds(0));
    refuses(x, "no card, price 0", INDEX, () -> x.offer(2, 0));
    refuses(x, "card -1, price 1000", INDEX, () -> x.offer(-1, 1000));
  }

  private static void offerAtAWrongPriceWhenStaked() {
    Check.sentence("offer: a wrong price ahead of a card that is staked, or offered");
    SnapshotArena x = staked(kinds(0), kinds(0));
    refuses(x, "a staked card at 0", ARGUMENT, () -> x.offer(0, 0));
    refuses(x, "a staked card at 1000", ARGUMENT, () -> x.offer(1, 1000));
    x.offer(x.make(2, 0), 1);
    refuses(x, "an offered card at 0", ARGUMENT, () -> x.offer(2, 0));
    refuses(x, "an offered card at 1000", ARGUMENT, () -> x.offer(2, 1000));
  }

  private static void offersWhenFull() {
    Check.sentence("offer: no such card, and a wrong price, ahead of 60 offers");
    SnapshotArena x = withPlayers(1);
    x.make(0, 0);
    for (int offer = 0; offer < 60; offer++) {
      x.offer(0, 1);
      x.withdraw(offer);
    }
    refuses(x, "no card", INDEX, () -> x.offer(1, 1));
    refuses(x, "no card, price 0", INDEX, () -> x.offer(-1, 0));
    refuses(x, "price 0", ARGUMENT, () -> x.offer(0, 0));
    refuses(x, "price 1000", ARGUMENT, () -> x.offer(0, 1000));
    refuses(x, "a right one", STATE, () -> x.offer(0, 1));
  }

  private static void withdrawOfNothing() {
    Check.sentence("withdraw: no such offer beside one that is not open");
    SnapshotArena x = withPlayers(1);
    x.make(0, 0);
    x.offer(0, 1);
    x.withdraw(0);
    refuses(x, "offer 1", INDEX, () -> x.withdraw(1));
    refuses(x, "offer -1", INDEX, () -> x.withdraw(-1));
  }

  private static void buyByNobody() {
    Check.sentence("buy: no such player or offer ahead of all else");
    SnapshotArena x = new SnapshotArena();
    x.player(5);
    x.player(5);
    x.make(0, 0);
    x.offer(0, 6);
    refuses(x, "nobody, of an offer that is open", INDEX, () -> x.buy(2, 0));
    refuses(x, "no offer, by one who has too few", INDEX, () -> x.buy(1, 1));
    x.withdraw(0);
    refuses(x, "nobody, of an offer that is gone", INDEX, () -> x.buy(2, 0));
    refuses(x, "nobody, of no offer", INDEX, () -> x.buy(-1, -1));
  }

  private static void buyOfWhatIsNotOpenWithoutCoins() {
    Check.sentence("buy: an offer that is not open ahead of too few coins");
    SnapshotArena x = new SnapshotArena();
    x.player(5);
    x.player(5);
    x.player(10);
    x.make(0, 0);
    x.offer(0, 6);
    x.withdraw(0);
    refuses(x, "withdrawn", UNSUPPORTED, () -> x.buy(1, 0));
    x.offer(0, 6);
    x.buy(2, 1);
    refuses(x, "bought", UNSUPPORTED, () -> x.buy(1, 1));
    refuses(x, "bought by the same one", UNSUPPORTED, () -> x.buy(2, 1));
  }

  private static void buyOfOnesOwnWithoutCoins() {
    Check.sentence("buy: a card that is this player's ahead of too few coins");
    SnapshotArena x = new SnapshotArena();
    x.player(5);
    x.player(5);
    x.make(0, 0);
    x.offer(0, 6);
    refuses(x, "one's own", UNSUPPORTED, () -> x.buy(0, 0));
    refuses(x, "another's", STATE, () -> x.buy(1, 0));
  }

  // ---- calls that are refused, and the last calls

  /** Each call is refused; the arena goes on as one in which they were never made. */
  private static void changesNothing() {
    Check.sentence("A method that throws an exception changes nothing. (nor what comes after it)");
    SnapshotArena plain = wonByFirst();
    SnapshotArena x = started(kinds(HURT_4_FREE, HURT_4_FREE, HURT_4_FREE),
        kinds(HURT_1_FREE, HURT_1_FREE));
    refusedOften(x);
    x.snapshot(0);
    refusedOften(x);
    playAll(x, 0, 1, 2);
    refusedOften(x);
    x.endTurn(0);
    refusedOften(x);
    Check.sameText("as without refused calls", Look.at(x), Look.at(plain));
    sell(plain, 3, 30, 2);
    sell(x, 3, 30, 2);
    refusedOften(x);
    Check.same("one sale", plain.rollBack(0, 0), 1);
    Check.same("one sale, with refused calls", x.rollBack(0, 0), 1);
    refusedOften(x);
    Check.sameText("as without refused calls, rolled back", Look.at(x), Look.at(plain));
  }

  private static void refusedOften(SnapshotArena x) {
    refuses(x, "player", ARGUMENT, () -> x.player(-1));
    refuses(x, "make", ARGUMENT, () -> x.make(0, 16));
    refuses(x, "duel", ARGUMENT, () -> x.duel(0, 0));
    refuses(x, "stake", INDEX, () -> x.stake(0, 40));
    refuses(x, "start", UNSUPPORTED, () -> x.start(0));
    refuses(x, "play", UNSUPPORTED, () -> x.play(0, 4));
    refuses(x, "endTurn", INDEX, () -> x.endTurn(1));
    refuses(x, "close", INDEX, () -> x.close(1));
    refuses(x, "snapshot", INDEX, () -> x.snapshot(1));
    refuses(x, "rollBack", INDEX, () -> x.rollBack(0, 6));
    refuses(x, "offer", ARGUMENT, () -> x.offer(3, 0));
    refuses(x, "withdraw", INDEX, () -> x.withdraw(60));
    refuses(x, "buy", INDEX, () -> x.buy(0, 60));
  }

  private static void lastCalls() {
    lastOf512();
    manyRollbacks();
  }

  private static void lastOf512() {
    Check.sentence("An object is used for at most 512 calls after it has been made (the last one "
        + "answers as any)");
    SnapshotArena x = started(kinds(HURT_1_FREE), kinds(HURT_1_FREE));
    int calls = 9;
    while (calls < 511) {
      Check.sameChar("endTurn", x.endTurn(0), 'g');
      calls++;
    }
    Check.same("the 512th call", x.snapshot(0), 0);
    Check.same("turns", x.inSnapshot(0, 0, 3), 502);
    SnapshotArena refused = new SnapshotArena();
    for (calls = 0; calls < 511; calls++) {
      try {
        refused.player(-1);
      } catch (IllegalArgumentException e) {
        continue;
      }
      Check.complain("player(-1) was not refused");
    }
    Check.same("the 512th call after 511 refused ones", refused.player(1), 0);
  }

  private static void manyRollbacks() {
    Check.sentence("An object is used for at most 512 calls (each of which moves 8 cards)");
    SnapshotArena x = started(kinds(12, 12, 12, 0, 0, 0, 0, 0), new int[8]);
    playAll(x, 0, 1, 2);
    x.snapshot(0);
    int calls = 41;
    int due = x.postings();
    while (calls < 511) {
      x.endTurn(0);
      x.rollBack(0, 0);
      due += 16;
      calls += 2;
    }
    x.endTurn(0);
    due += 8;
    Check.same("postings", x.postings(), due);
    postingIs(x, 0, 0, -1, 0);
    postingIs(x, due - 9, 15, 0, 1);
    postingIs(x, due - 8, 8, 1, 0);
    postingIs(x, due - 1, 15, 1, 0);
    for (int card = 0; card < 16; card++) {
      Check.same("owner by postings", x.ownerByPostings(card), 0);
    }
    Check.holds("sound", x.isSound());
  }
}
