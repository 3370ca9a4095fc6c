/** At least one check for each promise of the document: ordinary calls, its edges, wrong calls. */
public final class PromisesTest extends Scene {
  public static void main(String[] args) {
    promise1NewObject();
    promise2Player();
    promise3Make();
    promises4To6Cards();
    promises7And8Players();
    promises9And10Postings();
    promise11Duel();
    promise12Stake();
    promise13Start();
    promise14Play();
    promise15EndTurnAndStack();
    promise15EndOfDuel();
    promise16DuelState();
    promise17Life();
    promise18Mana();
    promise19Depth();
    promise20Winner();
    promise21Close();
    promise22Snapshot();
    promise23InSnapshot();
    promise24Blocks();
    promise25RollBackGoing();
    promise25RollBackEnded();
    promise25RollBackWithoutWinner();
    promise25RollBackRefused();
    promise26Offer();
    promise27Withdraw();
    promise28Buy();
    promise29OfferState();
    promises30And31Coins();
    promise32WonBits();
    promise33MeanPrice();
    promise34IsSound();
    Check.finish("PromisesTest");
  }

  // ---- players and cards

  private static void promise1NewObject() {
    SnapshotArena x = new SnapshotArena();
    Check.same("new: postings", x.postings(), 0);
    Check.same("new: blocks", x.blocks(), 0);
    Check.same("new: house", x.house(), 0);
    Check.same("new: apart", x.apart(), 0);
    Check.holds("new: isSound", x.isSound());
    refuses(x, "new: player 0", INDEX, () -> x.coinsOf(0));
    refuses(x, "new: card 0", INDEX, () -> x.ownerOf(0));
    refuses(x, "new: duel 0", INDEX, () -> x.duelState(0));
    refuses(x, "new: offer 0", INDEX, () -> x.offerState(0));
    x.player(1);
    Check.same("another new object: first player", new SnapshotArena().player(1), 0);
  }

  private static void promise2Player() {
    SnapshotArena x = new SnapshotArena();
    refuses(x, "player(-1)", ARGUMENT, () -> x.player(-1));
    refuses(x, "player(1000)", ARGUMENT, () -> x.player(1000));
    Check.same("player(0)", x.player(0), 0);
    Check.same("player(999)", x.player(999), 1);
    for (int i = 2; i < 6; i++) {
      Check.same("player " + i, x.player(i), i);
    }
    Check.same("coins of player 0", x.coinsOf(0), 0);
    Check.same("coins of player 1", x.coinsOf(1), 999);
    refuses(x, "a 7th player", STATE, () -> x.player(5));
    refuses(x, "a 7th player with wrong coins", ARGUMENT, () -> x.player(1000));
  }

  private static void promise3Make() {
    SnapshotArena x = withPlayers(2);
    for (int wrong : WRONG_NUMBERS) {
      refuses(x, "make for no player", INDEX, () -> x.make(wrong, 99));
      refuses(x, "make of no kind", ARGUMENT, () -> x.make(0, wrong));
    }
    refuses(x, "make for player 2 of 2", INDEX, () -> x.make(2, 0));
    refuses(x, "make of kind 16", ARGUMENT, () -> x.make(0, 16));
    for (int i = 0; i < 40; i++) {
      Check.same("make " + i, x.make(i % 2, i % 16), i);
    }
    refuses(x, "a 41st card", STATE, () -> x.make(0, 0));
    refuses(x, "a 41st card of no kind", ARGUMENT, () -> x.make(0, 16));
    refuses(x, "a 41st card for nobody", INDEX, () -> x.make(2, 16));
    postingIs(x, 39, 39, -1, 1);
  }

  private static void promises4To6Cards() {
    SnapshotArena x = started(kinds(HURT_4_FREE, HURT_4_FREE, HURT_4_FREE), kinds(HURT_1_FREE));
    x.make(2, 0);
    Check.same("owner of a staked card", x.ownerOf(3), 1);
    Check.sameChar("a staked card", x.stateOf(3), 's');
    Check.sameChar("a new card", x.stateOf(4), '-');
    playAll(x, 0, 1, 2);
    x.endTurn(0);
    Check.same("owner of a lost card", x.ownerOf(3), 0);
    Check.same("owner by postings of a lost card", x.ownerByPostings(3), 0);
    Check.sameChar("a lost card", x.stateOf(3), 'w');
    Check.sameChar("the winner's card", x.stateOf(0), 'w');
    sell(x, 3, 10, 2);
    Check.same("owner of a card sold", x.ownerOf(3), 2);
    Check.same("owner by postings of a card sold", x.ownerByPostings(3), 2);
    Check.same("owner by postings of another", x.ownerByPostings(0), 0);
    Check.sameChar("a won card that is sold", x.stateOf(3), 'w');
    x.close(0);
    Check.sameChar("a card of a final duel", x.stateOf(3), '-');
    for (int wrong : new int[] {-1, 5, Integer.MIN_VALUE, Integer.MAX_VALUE}) {
      refuses(x, "ownerOf no card", INDEX, () -> x.ownerOf(wrong));
      refuses(x, "ownerByPostings of no card", INDEX, () -> x.ownerByPostings(wrong));
      refuses(x, "stateOf no card", INDEX, () -> x.stateOf(wrong));
    }
  }

  private static void promises7And8Players() {
    SnapshotArena x = wonByFirst();
    Check.same("cards of the winner", x.cardsOf(0), 5);
    Check.same("cards of the loser", x.cardsOf(1), 0);
    sell(x, 4, 10, 2);
    Check.same("cards of the buyer", x.cardsOf(2), 1);
    Check.same("coins of the buyer", x.coinsOf(2), 90);
    Check.same("coins of the seller of a won card", x.coinsOf(0), 100);
    for (int wrong : new int[] {-1, 3, Integer.MIN_VALUE, Integer.MAX_VALUE}) {
      refuses(x, "cardsOf nobody", INDEX, () -> x.cardsOf(wrong));
      refuses(x, "coinsOf nobody", INDEX, () -> x.coinsOf(wrong));
    }
  }

  private static void promises9And10Postings() {
    SnapshotArena x = wonByFirst();
    Check.same("postings of 5 cards, 2 of them lost", x.postings(), 7);
    postingIs(x, 0, 0, -1, 0);
    postingIs(x, 4, 4, -1, 1);
    postingIs(x, 5, 3, 1, 0);
    postingIs(x, 6, 4, 1, 0);
    refuses(x, "posting(-1)", INDEX, () -> x.posting(-1, 'c'));
    refuses(x, "posting(7)", INDEX, () -> x.posting(7, 'c'));
    refuses(x, "posting(7) of nothing", INDEX, () -> x.posting(7, 'x'));
    refuses(x, "posting at the largest index", INDEX, () -> x.posting(Integer.MAX_VALUE, 'c'));
    for (char wrong : new char[] {'C', 'x', (char) 0, (char) 65535, 'd', 'e', 'g', 's', 'u'}) {
      refuses(x, "posting of no thing", ARGUMENT, () -> x.posting(0, wrong));
    }
  }

  // ---- duels

  private static void promise11Duel() {
    SnapshotArena x = withPlayers(4);
    refuses(x, "duel of nobody first", INDEX, () -> x.duel(-1, 0));
    refuses(x, "duel of nobody second", INDEX, () -> x.duel(0, 4));
    refuses(x, "duel of nobody twice", INDEX, () -> x.duel(4, 4));
    refuses(x, "duel with oneself", ARGUMENT, () -> x.duel(1, 1));
    Check.same("the first duel", x.duel(0, 1), 0);
    Check.sameChar("a new duel", x.duelState(0), 'o');
    refuses(x, "duel with oneself in a duel", ARGUMENT, () -> x.duel(1, 1));
    refuses(x, "duel of the first player again", STATE, () -> x.duel(2, 0));
    refuses(x, "duel of the second player again", STATE, () -> x.duel(1, 2));
    Check.same("a duel of others", x.duel(3, 2), 1);
    duelsOneAfterTheOther();
  }

  private static void duelsOneAfterTheOther() {
    SnapshotArena x = withPlayers(3);
    for (int i = 0; i < 8; i++) {
      Check.same("duel " + i, x.duel(i % 2, 1 - i % 2), i);
      int lost = x.make(0, HURT_1_FREE);
      int other = x.make(1, HURT_1_FREE);
      x.stake(i, lost);
      x.stake(i, other);
      x.start(i);
      int duel = i;
      refuses(x, "duel while one goes on", STATE, () -> x.duel(0, 2));
      x.play(duel, duel % 2 == 0 ? lost : other);
      x.endTurn(duel);
      x.play(duel, duel % 2 == 0 ? other : lost);
      Check.sameChar("the duel's end", x.endTurn(duel), 'e');
      if (i < 4) {
        x.close(i);
      }
    }
    refuses(x, "a 9th duel", STATE, () -> x.duel(0, 1));
    refuses(x, "a 9th duel with oneself", ARGUMENT, () -> x.duel(0, 0));
  }

  private static void promise12Stake() {
    SnapshotArena x = withPlayers(3);
    for (int i = 0; i < 27; i++) {
      x.make(i / 9, 0);
    }
    x.duel(0, 1);
    refuses(x, "stake in no duel", INDEX, () -> x.stake(1, 0));
    refuses(x, "stake in duel -1", INDEX, () -> x.stake(-1, 0));
    refuses(x, "stake of no card", INDEX, () -> x.stake(0, 27));
    refuses(x, "stake of card -1", INDEX, () -> x.stake(0, -1));
    refuses(x, "stake of another's card", UNSUPPORTED, () -> x.stake(0, 18));
    x.offer(8, 5);
    refuses(x, "stake of an offered card", STATE, () -> x.stake(0, 8));
    x.withdraw(0);
    for (int i = 0; i < 8; i++) {
      Check.same("stake " + i + " of the second", x.stake(0, 9 + i), i + 1);
      Check.same("stake " + i + " of the first", x.stake(0, i), i + 1);
    }
    refuses(x, "a 9th stake of the first", STATE, () -> x.stake(0, 8));
    refuses(x, "a 9th stake of the second", STATE, () -> x.stake(0, 17));
    refuses(x, "stake of a staked card", STATE, () -> x.stake(0, 0));
    x.start(0);
    refuses(x, "stake in a duel that goes on", UNSUPPORTED, () -> x.stake(0, 8));
    refuses(x, "stake of a staked card in one that goes on", UNSUPPORTED, () -> x.stake(0, 0));
    stakeOfWonAndSoldCards();
  }

  private static void stakeOfWonAndSoldCards() {
    SnapshotArena x = wonByFirst();
    x.duel(0, 2);
    refuses(x, "stake of a won card", STATE, () -> x.stake(1, 3));
    sell(x, 4, 5, 2);
    refuses(x, "stake of a won card by its buyer", STATE, () -> x.stake(1, 4));
    x.close(0);
    Check.same("stake of the card by its buyer when free", x.stake(1, 4), 1);
    Check.same("stake of the card by its winner when free", x.stake(1, 3), 1);
  }

  private static void promise13Start() {
    SnapshotArena x = staked(kinds(), kinds());
    refuses(x, "start of no duel", INDEX, () -> x.start(1));
    refuses(x, "start of duel -1", INDEX, () -> x.start(-1));
    refuses(x, "start without cards", STATE, () -> x.start(0));
    SnapshotArena onlyFirst = staked(kinds(0), kinds());
    refuses(onlyFirst, "start without the second's cards", STATE, () -> onlyFirst.start(0));
    SnapshotArena onlySecond = staked(kinds(), kinds(0));
    refuses(onlySecond, "start without the first's cards", STATE, () -> onlySecond.start(0));
    SnapshotArena both = staked(kinds(0, 0), kinds(0));
    Check.same("start", both.start(0), 3);
    Check.sameChar("a started duel", both.duelState(0), 'g');
    Check.same("mana at the start", both.mana(0), 1);
    lives(both, 10, 10);
    refuses(both, "start again", UNSUPPORTED, () -> both.start(0));
    refuses(wonByFirst(), "start of an ended duel", UNSUPPORTED, () -> wonByFirst().start(0));
  }

  private static void promise14Play() {
    SnapshotArena open = staked(kinds(0), kinds(0));
    refuses(open, "play in an open duel", UNSUPPORTED, () -> open.play(0, 0));
    SnapshotArena x =
        started(kinds(HURT_2_COST_1, HEAL_1_COST_1, HURT_1_FREE, AWAY_COST_2), kinds(HURT_1_FREE));
    x.make(0, 0);
    refuses(x, "play in no duel", INDEX, () -> x.play(1, 0));
    refuses(x, "play in duel -1", INDEX, () -> x.play(-1, 0));
    refuses(x, "play of no card", INDEX, () -> x.play(0, 6));
    refuses(x, "play of card -1", INDEX, () -> x.play(0, -1));
    refuses(x, "play of the other's card", UNSUPPORTED, () -> x.play(0, 4));
    refuses(x, "play of a card not staked", UNSUPPORTED, () -> x.play(0, 5));
    refuses(x, "play of a card that costs 2 of 1", STATE, () -> x.play(0, 3));
    Check.same("play of a card that costs 1 of 1", x.play(0, 0), 0);
    refuses(x, "play again", UNSUPPORTED, () -> x.play(0, 0));
    refuses(x, "play of a card that costs 1 of 0", STATE, () -> x.play(0, 1));
    Check.same("play of a card that costs nothing", x.play(0, 2), 0);
    Check.same("depth by then", x.depth(0), 2);
    x.endTurn(0);
    refuses(x, "play when the other has the turn", UNSUPPORTED, () -> x.play(0, 1));
    Check.same("play by the other", x.play(0, 4), 1);
    x.endTurn(0);
    refuses(x, "play again in a later turn", UNSUPPORTED, () -> x.play(0, 0));
    Check.same("play with the mana of 2", x.play(0, 3), 0);
    SnapshotArena ended = wonByFirst();
    refuses(ended, "play in an ended duel", UNSUPPORTED, () -> ended.play(0, 3));
  }

  private static void promise15EndTurnAndStack() {
    SnapshotArena open = staked(kinds(0), kinds(0));
    refuses(open, "endTurn of no duel", INDEX, () -> open.endTurn(1));
    refuses(open, "endTurn of duel -1", INDEX, () -> open.endTurn(-1));
    refuses(open, "endTurn of an open duel", UNSUPPORTED, () -> open.endTurn(0));
    stackAnswers(kinds(), 10, 10);
    stackAnswers(kinds(HURT_4_FREE), 10, 6);
    stackAnswers(kinds(HEAL_3_FREE), 13, 10);
    stackAnswers(kinds(AWAY_FREE), 10, 10);
    stackAnswers(kinds(ADD_1_FREE), 10, 10);
    // Played later is done earlier: only what lies below is taken away or grows.
    stackAnswers(kinds(HURT_4_FREE, HURT_1_FREE, AWAY_FREE), 10, 6);
    stackAnswers(kinds(AWAY_FREE, HURT_4_FREE), 10, 6);
    stackAnswers(kinds(HURT_1_FREE, ADD_4_FREE), 10, 5);
    stackAnswers(kinds(ADD_4_FREE, HURT_1_FREE), 10, 9);
    stackAnswers(kinds(HURT_1_FREE, HURT_1_FREE, ADD_4_FREE), 10, 4);
    stackAnswers(kinds(HEAL_3_FREE, ADD_4_FREE), 17, 10);
    stackAnswers(kinds(HURT_1_FREE, ADD_1_FREE, ADD_4_FREE), 10, 4);
    stackAnswers(kinds(HURT_1_FREE, AWAY_FREE, ADD_4_FREE), 10, 10);
    stackAnswers(kinds(HURT_1_FREE, HURT_1_FREE, AWAY_FREE, ADD_4_FREE), 10, 9);
    stackAnswers(kinds(HURT_1_FREE, ADD_4_FREE, AWAY_FREE), 10, 9);
    stackAnswers(kinds(HURT_1_FREE, AWAY_FREE, AWAY_FREE), 10, 9);
    // Healed up to 20, also by a power that has grown beyond 9.
    stackAnswers(kinds(HEAL_3_FREE, HEAL_3_FREE, HEAL_3_FREE), 19, 10);
    stackAnswers(kinds(HEAL_3_FREE, HEAL_3_FREE, HEAL_3_FREE, HEAL_3_FREE), 20, 10);
    stackAnswers(kinds(HEAL_3_FREE, ADD_4_FREE, ADD_4_FREE), 20, 10);
    stackAnswers(kinds(HEAL_3_FREE, ADD_1_FREE, ADD_1_FREE, ADD_4_FREE), 19, 10);
    stackOfTheSecond();
  }

  private static void stackAnswers(int[] played, int first, int second) {
    SnapshotArena x = started(played.length == 0 ? kinds(0) : played, kinds(0));
    for (int card = 0; card < played.length; card++) {
      x.play(0, card);
    }
    Check.sameChar("endTurn", x.endTurn(0), 'g');
    Check.same("depth after a turn", x.depth(0), 0);
    lives(x, first, second);
  }

  private static void stackOfTheSecond() {
    SnapshotArena x = started(kinds(0), kinds(HURT_4_FREE, HEAL_3_FREE, 0));
    x.endTurn(0);
    playAll(x, 1, 2);
    x.endTurn(0);
    lives(x, 6, 13);
  }

  private static void promise15EndOfDuel() {
    SnapshotArena x = started(
        kinds(HURT_1_FREE, HURT_4_FREE, HURT_4_FREE, HURT_4_FREE), kinds(HURT_1_FREE));
    playAll(x, 0, 1, 2, 3);
    Check.sameChar("endTurn that ends the duel", x.endTurn(0), 'e');
    lives(x, 10, -2);
    Check.same("depth of an ended duel", x.depth(0), 0);
    Check.same("winner", x.winner(0), 0);
    refuses(x, "endTurn of an ended duel", UNSUPPORTED, () -> x.endTurn(0));
    endAtLifeOfJustZero();
    noEndAtLifeOfOne();
    endByLife(kinds(HURT_4_FREE), kinds(HURT_1_FREE), 0);
    endByLife(kinds(HURT_1_FREE), kinds(HURT_4_FREE), 1);
    endByLife(kinds(HURT_1_FREE), kinds(HURT_1_FREE), -1);
    noEndWhileOneHasCards();
  }

  private static void endAtLifeOfJustZero() {
    SnapshotArena x = started(kinds(0), kinds(AWAY_FREE, HURT_1_FREE, HURT_1_FREE, ADD_4_FREE,
        HURT_1_FREE, ADD_4_FREE));
    x.endTurn(0);
    playAll(x, 1, 2, 3, 4, 5, 6);
    Check.sameChar("endTurn at life 0", x.endTurn(0), 'e');
    lives(x, 0, 10);
    Check.same("winner at life 0", x.winner(0), 1);
    Check.same("owner of the first's card", x.ownerOf(0), 1);
    postingIs(x, 7, 0, 0, 1);
    Check.same("postings", x.postings(), 8);
  }

  private static void noEndAtLifeOfOne() {
    SnapshotArena x = started(kinds(HURT_1_FREE, HURT_4_FREE, HURT_4_FREE), kinds(0));
    playAll(x, 0, 1, 2);
    Check.sameChar("endTurn at life 1", x.endTurn(0), 'g');
    lives(x, 10, 1);
  }

  private static void endByLife(int[] first, int[] second, int winner) {
    SnapshotArena x = started(first, second);
    x.play(0, 0);
    Check.sameChar("the first one's last card", x.endTurn(0), 'g');
    x.play(0, 1);
    Check.sameChar("the second one's last card", x.endTurn(0), 'e');
    Check.same("winner by life", x.winner(0), winner);
    Check.same("owner of card 0", x.ownerOf(0), winner < 0 ? 0 : winner);
    Check.same("owner of card 1", x.ownerOf(1), winner < 0 ? 1 : winner);
    Check.sameChar("state of card 0", x.stateOf(0), 'w');
    Check.sameChar("state of card 1", x.stateOf(1), 'w');
    Check.same("postings", x.postings(), winner < 0 ? 2 : 3);
  }

  private static void noEndWhileOneHasCards() {
    SnapshotArena x = started(kinds(0), kinds(0, AWAY_COST_2));
    x.play(0, 0);
    x.endTurn(0);
    x.play(0, 1);
    Check.sameChar("a card is left that costs too much now", x.endTurn(0), 'g');
    Check.sameChar("and its player has no turn", x.endTurn(0), 'g');
    x.play(0, 2);
    Check.sameChar("all played", x.endTurn(0), 'e');
    Check.same("nobody won", x.winner(0), -1);
  }

  private static void promise16DuelState() {
    SnapshotArena x = staked(kinds(0), kinds(0));
    Check.sameChar("open", x.duelState(0), 'o');
    x.start(0);
    Check.sameChar("goes on", x.duelState(0), 'g');
    SnapshotArena ended = wonByFirst();
    Check.sameChar("ended", ended.duelState(0), 'e');
    ended.close(0);
    Check.sameChar("final", ended.duelState(0), 'f');
    refuses(x, "duelState of no duel", INDEX, () -> x.duelState(1));
    refuses(x, "duelState of duel -1", INDEX, () -> x.duelState(-1));
  }

  private static void promise17Life() {
    SnapshotArena x = staked(kinds(HURT_4_FREE), kinds(0));
    lives(x, 10, 10);
    x.start(0);
    x.play(0, 0);
    lives(x, 10, 10);
    x.endTurn(0);
    lives(x, 10, 6);
    SnapshotArena ended = wonByFirst();
    lives(ended, 10, -2);
    ended.close(0);
    lives(ended, 10, -2);
    refuses(x, "life in no duel", INDEX, () -> x.life(1, false));
    refuses(x, "life in duel -1", INDEX, () -> x.life(-1, true));
  }

  private static void promise18Mana() {
    SnapshotArena x = staked(kinds(0), kinds(HURT_3_COST_2));
    refuses(x, "mana of no duel", INDEX, () -> x.mana(1));
    refuses(x, "mana of duel -1", INDEX, () -> x.mana(-1));
    refuses(x, "mana of an open duel", UNSUPPORTED, () -> x.mana(0));
    x.start(0);
    for (int turns = 0; turns < 16; turns++) {
      Check.same("mana after " + turns + " turns", x.mana(0), Math.min(6, 1 + turns / 2));
      x.endTurn(0);
    }
    x.endTurn(0);
    Check.same("mana left", x.play(0, 1), 4);
    Check.same("mana then", x.mana(0), 4);
    x.endTurn(0);
    Check.same("mana of the next turn", x.mana(0), 6);
    SnapshotArena ended = wonByFirst();
    refuses(ended, "mana of an ended duel", UNSUPPORTED, () -> ended.mana(0));
    ended.close(0);
    refuses(ended, "mana of a final duel", UNSUPPORTED, () -> ended.mana(0));
  }

  private static void promise19Depth() {
    SnapshotArena x = staked(kinds(0, 0, 0, 0, 0, 0, 0, 0), kinds(0));
    Check.same("depth of an open duel", x.depth(0), 0);
    x.start(0);
    for (int card = 0; card < 8; card++) {
      x.play(0, card);
      Check.same("depth", x.depth(0), card + 1);
    }
    x.endTurn(0);
    Check.same("depth after the turn", x.depth(0), 0);
    lives(x, 10, 2);
    refuses(x, "depth of no duel", INDEX, () -> x.depth(1));
    refuses(x, "depth of duel -1", INDEX, () -> x.depth(-1));
  }

  private static void promise20Winner() {
    SnapshotArena x = staked(kinds(0), kinds(0));
    refuses(x, "winner of no duel", INDEX, () -> x.winner(1));
    refuses(x, "winner of duel -1", INDEX, () -> x.winner(-1));
    refuses(x, "winner of an open duel", NO_ELEMENT, () -> x.winner(0));
    x.start(0);
    refuses(x, "winner of a duel that goes on", NO_ELEMENT, () -> x.winner(0));
    SnapshotArena won = wonByFirst();
    Check.same("winner", won.winner(0), 0);
    won.rollBack(0, 0);
    refuses(won, "winner of a duel rolled back", NO_ELEMENT, () -> won.winner(0));
    SnapshotArena drawn = wonByNobody();
    Check.same("nobody won", drawn.winner(0), -1);
    drawn.close(0);
    Check.same("nobody won, final", drawn.winner(0), -1);
  }

  private static void promise21Close() {
    SnapshotArena x = staked(kinds(0), kinds(0));
    refuses(x, "close of no duel", INDEX, () -> x.close(1));
    refuses(x, "close of duel -1", INDEX, () -> x.close(-1));
    refuses(x, "close of an open duel", UNSUPPORTED, () -> x.close(0));
    x.start(0);
    refuses(x, "close of a duel that goes on", UNSUPPORTED, () -> x.close(0));
    SnapshotArena won = wonByFirst();
    sell(won, 3, 31, 2);
    int open = won.offer(4, 20);
    Check.same("close", won.close(0), 5);
    for (int card = 0; card < 5; card++) {
      Check.sameChar("a card of a final duel", won.stateOf(card), '-');
    }
    Check.same("the seller is paid", won.coinsOf(0), 127);
    Check.same("the fee is rounded up", won.house(), 4);
    Check.same("nothing is apart", won.apart(), 0);
    Check.sameChar("an offer stays open", won.offerState(open), 'o');
    won.buy(1, open);
    Check.same("a free card is paid at once", won.coinsOf(0), 145);
    refuses(won, "close of a final duel", UNSUPPORTED, () -> won.close(0));
    Check.same("close of a drawn duel", wonByNobody().close(0), 2);
    closeLeavesOtherDuels();
  }

  private static void closeLeavesOtherDuels() {
    SnapshotArena x = wonByFirst();
    x.duel(2, 1);
    int strong = x.make(2, HURT_4_FREE);
    int weak = x.make(1, HURT_1_FREE);
    x.stake(1, strong);
    x.stake(1, weak);
    x.start(1);
    x.play(1, strong);
    x.endTurn(1);
    x.play(1, weak);
    x.endTurn(1);
    Check.same("player 2 won duel 1", x.winner(1), 2);
    sell(x, 3, 20, 1);
    sell(x, weak, 30, 0);
    x.close(0);
    Check.same("only the other duel's price is apart", x.apart(), 30);
    Check.same("the fee of the closed duel", x.house(), 2);
    Check.same("the seller of the closed duel", x.coinsOf(0), 88);
    Check.same("the seller of the other duel", x.coinsOf(2), 100);
    Check.sameChar("a card of the other duel", x.stateOf(weak), 'w');
    x.close(1);
    Check.same("the seller of the other duel then", x.coinsOf(2), 127);
  }

  // ---- snapshots and market

  private static void promise22Snapshot() {
    SnapshotArena x = staked(kinds(0), kinds(0));
    refuses(x, "snapshot of no duel", INDEX, () -> x.snapshot(1));
    refuses(x, "snapshot of duel -1", INDEX, () -> x.snapshot(-1));
    refuses(x, "snapshot of an open duel", UNSUPPORTED, () -> x.snapshot(0));
    x.start(0);
    for (int i = 0; i < 6; i++) {
      Check.same("snapshot", x.snapshot(0), i);
    }
    refuses(x, "a 7th snapshot", STATE, () -> x.snapshot(0));
    x.rollBack(0, 3);
    Check.same("snapshot after a rollback", x.snapshot(0), 4);
    SnapshotArena ended = wonByFirst();
    refuses(ended, "snapshot of an ended duel", UNSUPPORTED, () -> ended.snapshot(0));
    ended.close(0);
    refuses(ended, "snapshot of a final duel", UNSUPPORTED, () -> ended.snapshot(0));
  }

  private static void snapshotIs(SnapshotArena x, int snapshot, int... due) {
    for (int place = 0; place < 24; place++) {
      Check.same("snapshot " + snapshot + " at " + place, x.inSnapshot(0, snapshot, place),
          due[place]);
    }
  }

  private static void promise23InSnapshot() {
    SnapshotArena x = started(
        kinds(HURT_2_COST_1, ADD_4_FREE, AWAY_FREE, HEAL_3_FREE, HURT_1_FREE),
        kinds(HURT_1_FREE, HEAL_3_FREE, HURT_4_FREE));
    x.snapshot(0);
    playAll(x, 0, 4);
    x.snapshot(0);
    playAll(x, 1, 3);
    x.snapshot(0);
    x.endTurn(0);
    playAll(x, 7, 6);
    x.snapshot(0);
    snapshotIs(x, 0, 10, 10, 1, 0, 0, 0, 0, 0, 0, 0, 0, 0, 0, 0, 0, 0, 0, 0, 0, 0, 0, -1, -1, -1);
    snapshotIs(x, 1, 10, 10, 0, 0, 1, 0, 0, 0, 1, 0, 0, 0, 0, 0, 0, 0, 0, 0, 0, 0, 2, 1, 2, -1);
    snapshotIs(x, 2, 10, 10, 0, 0, 1, 1, 0, 1, 1, 0, 0, 0, 0, 0, 0, 0, 0, 0, 0, 0, 4, 13, 34, 1);
    snapshotIs(x, 3, 13, 3, 1, 1, 1, 1, 0, 1, 1, 0, 0, 0, 0, 1, 1, 0, 0, 0, 0, 0, 2, 113, 104, -1);
    refuses(x, "inSnapshot of no duel", INDEX, () -> x.inSnapshot(1, 0, 0));
    refuses(x, "inSnapshot of duel -1", INDEX, () -> x.inSnapshot(-1, 0, 0));
    refuses(x, "inSnapshot of no snapshot", INDEX, () -> x.inSnapshot(0, 4, 0));
    refuses(x, "inSnapshot of snapshot -1", INDEX, () -> x.inSnapshot(0, -1, 0));
    refuses(x, "inSnapshot of no place", INDEX, () -> x.inSnapshot(0, 0, 24));
    refuses(x, "inSnapshot of place -1", INDEX, () -> x.inSnapshot(0, 0, -1));
    SnapshotArena closed = wonByFirst();
    closed.close(0);
    Check.same("a snapshot of a final duel", closed.inSnapshot(0, 0, 1), 10);
  }

  private static void promise24Blocks() {
    SnapshotArena x = started(kinds(0, 0, 0), kinds(0, 0, 0));
    Check.same("no blocks", x.blocks(), 0);
    x.snapshot(0);
    // Lives; four blocks of cards that are alike; the empty stack.
    Check.same("blocks of one snapshot", x.blocks(), 3);
    x.snapshot(0);
    Check.same("blocks of two like snapshots", x.blocks(), 3);
    x.play(0, 0);
    x.snapshot(0);
    Check.same("another block of cards and of the stack", x.blocks(), 5);
    x.endTurn(0);
    x.play(0, 3);
    x.snapshot(0);
    // The second one's cards are as the first one's; the lives and the stack are new.
    Check.same("a block at another place", x.blocks(), 7);
    x.rollBack(0, 2);
    Check.same("blocks that go with their snapshot", x.blocks(), 5);
    x.rollBack(0, 0);
    Check.same("blocks of the first one", x.blocks(), 3);
    blocksOfTwoDuels();
  }

  private static void blocksOfTwoDuels() {
    SnapshotArena x = withPlayers(4);
    for (int duel = 0; duel < 2; duel++) {
      x.duel(2 * duel, 2 * duel + 1);
      x.stake(duel, x.make(2 * duel, HURT_1_FREE));
      x.stake(duel, x.make(2 * duel + 1, HURT_1_FREE));
      x.start(duel);
      x.snapshot(duel);
      Check.same("blocks of " + (duel + 1) + " duels", x.blocks(), 3);
    }
    x.play(1, 2);
    x.snapshot(1);
    Check.same("blocks of one duel more", x.blocks(), 5);
    x.endTurn(1);
    x.play(1, 3);
    x.endTurn(1);
    x.close(1);
    Check.same("blocks of a final duel", x.blocks(), 5);
    x.play(0, 0);
    x.snapshot(0);
    Check.same("blocks of the other duel that are alike", x.blocks(), 5);
    x.rollBack(0, 0);
    Check.same("blocks that the other duel keeps", x.blocks(), 5);
  }

  private static void promise25RollBackGoing() {
    SnapshotArena x = started(
        kinds(HURT_1_FREE, HURT_2_COST_1, ADD_1_FREE, HEAL_3_FREE, HURT_1_FREE, HURT_1_FREE),
        kinds(HURT_4_FREE, AWAY_COST_2));
    x.snapshot(0);
    playAll(x, 0, 1, 2, 3, 4);
    x.snapshot(0);
    x.play(0, 5);
    x.snapshot(0);
    x.endTurn(0);
    x.play(0, 6);
    x.endTurn(0);
    lives(x, 9, 4);
    x.endTurn(0);
    Check.same("no sales to undo", x.rollBack(0, 1), 0);
    Check.sameChar("it goes on", x.duelState(0), 'g');
    lives(x, 10, 10);
    Check.same("mana as it was", x.mana(0), 0);
    Check.same("depth as it was", x.depth(0), 5);
    refuses(x, "a later snapshot is gone", INDEX, () -> x.inSnapshot(0, 2, 0));
    Check.same("the snapshot stays", x.inSnapshot(0, 1, 20), 5);
    refuses(x, "a played card stays played", UNSUPPORTED, () -> x.play(0, 4));
    refuses(x, "the first one has the turn", UNSUPPORTED, () -> x.play(0, 6));
    x.endTurn(0);
    lives(x, 13, 5);
    x.endTurn(0);
    Check.same("the last card is unplayed again", x.play(0, 5), 2);
    Check.same("back to the first one", x.rollBack(0, 0), 0);
    Check.same("empty stack", x.depth(0), 0);
    Check.same("mana at the start", x.mana(0), 1);
    Check.same("no postings", x.postings(), 8);
    rollBackToTheSecondsTurn();
  }

  private static void rollBackToTheSecondsTurn() {
    SnapshotArena x = started(
        kinds(HEAL_3_FREE, HURT_4_FREE, HURT_1_FREE, HURT_1_FREE),
        kinds(HURT_1_FREE, HEAL_1_COST_1, HURT_2_COST_1));
    x.snapshot(0);
    playAll(x, 0, 1);
    x.endTurn(0);
    playAll(x, 4, 5);
    x.snapshot(0);
    x.endTurn(0);
    playAll(x, 2, 3);
    x.endTurn(0);
    x.play(0, 6);
    x.endTurn(0);
    Check.sameChar("all cards are played", x.duelState(0), 'e');
    lives(x, 10, 5);
    x.rollBack(0, 1);
    lives(x, 13, 6);
    Check.same("mana of the second", x.mana(0), 0);
    refuses(x, "the first one has not the turn", UNSUPPORTED, () -> x.play(0, 2));
    refuses(x, "the second's played card", UNSUPPORTED, () -> x.play(0, 5));
    refuses(x, "the second's other card", STATE, () -> x.play(0, 6));
    x.endTurn(0);
    lives(x, 12, 7);
    Check.same("the first one's turn", x.play(0, 2), 2);
    x.snapshot(0);
    x.rollBack(0, 0);
    lives(x, 10, 10);
  }

  private static void promise25RollBackEnded() {
    SnapshotArena x = wonByFirst();
    int made = x.postings();
    x.player(200);
    int a = x.offer(3, 30);
    int b = x.offer(0, 40);
    int c = x.offer(4, 50);
    x.buy(3, c);
    x.buy(1, b);
    x.buy(2, a);
    int again = x.offer(3, 60);
    int withdrawn = x.offer(4, 1);
    x.withdraw(withdrawn);
    x.buy(3, again);
    int open = x.offer(3, 5);
    Check.same("apart", x.apart(), 180);
    Check.same("four sales undone", x.rollBack(0, 0), 4);
    Check.same("postings of sales, undone sales and cards", x.postings(), made + 4 + 4 + 2);
    postingIs(x, made + 4, 3, 3, 2);
    postingIs(x, made + 5, 3, 2, 0);
    postingIs(x, made + 6, 0, 1, 0);
    postingIs(x, made + 7, 4, 3, 0);
    postingIs(x, made + 8, 3, 0, 1);
    postingIs(x, made + 9, 4, 0, 1);
    for (int offer : new int[] {a, b, c, again, withdrawn, open}) {
      Check.sameChar("offer " + offer, x.offerState(offer), 'g');
    }
    Check.same("nothing is apart", x.apart(), 0);
    Check.same("nothing is the house's", x.house(), 0);
    for (int player = 0; player < 3; player++) {
      Check.same("coins of player " + player, x.coinsOf(player), 100);
    }
    Check.same("coins of player 3", x.coinsOf(3), 200);
    for (int card = 0; card < 5; card++) {
      Check.sameChar("state of card " + card, x.stateOf(card), 's');
      Check.same("owner of card " + card, x.ownerOf(card), card < 3 ? 0 : 1);
    }
    Check.sameChar("the duel goes on", x.duelState(0), 'g');
    refuses(x, "nothing was bought", ARITHMETIC, () -> x.meanPrice());
    refuses(x, "duel while this one goes on", STATE, () -> x.duel(2, 1));
    endAgain(x);
  }

  private static void endAgain(SnapshotArena x) {
    playAll(x, 0, 1, 2);
    Check.sameChar("it ends again", x.endTurn(0), 'e');
    Check.same("winner again", x.winner(0), 0);
    sell(x, 3, 10, 1);
    Check.same("an undone sale is not undone again", x.rollBack(0, 0), 1);
    playAll(x, 0, 1, 2);
    x.endTurn(0);
    Check.same("close without sales", x.close(0), 5);
    Check.same("nobody is paid", x.coinsOf(0), 100);
    Check.holds("sound", x.isSound());
  }

  private static void promise25RollBackWithoutWinner() {
    SnapshotArena x = wonByNobody();
    int early = x.postings();
    Check.same("no sales", x.rollBack(0, 0), 0);
    Check.same("no owner has changed", x.postings(), early);
    Check.sameChar("staked again", x.stateOf(0), 's');
    x.play(0, 0);
    x.endTurn(0);
    x.play(0, 1);
    x.endTurn(0);
    sell(x, 1, 10, 0);
    Check.same("one sale", x.rollBack(0, 0), 1);
    Check.same("sold and undone", x.postings(), early + 2);
    postingIs(x, early + 1, 1, 0, 1);
    salesAheadOfTheDuelStay();
  }

  private static void salesAheadOfTheDuelStay() {
    SnapshotArena x = withPlayers(3);
    x.make(2, HURT_4_FREE);
    x.make(1, HURT_1_FREE);
    int free = sell(x, 0, 20, 0);
    x.duel(0, 1);
    x.stake(0, 0);
    x.stake(0, 1);
    x.start(0);
    x.snapshot(0);
    x.play(0, 0);
    x.endTurn(0);
    x.play(0, 1);
    x.endTurn(0);
    x.make(2, 0);
    int other = x.offer(2, 9);
    Check.same("no sale of a won card", x.rollBack(0, 0), 0);
    Check.sameChar("the sale of the free card stays", x.offerState(free), 'b');
    Check.sameChar("the offer of another card stays", x.offerState(other), 'o');
    Check.same("its owner too", x.ownerOf(0), 0);
    Check.same("and the house's coins", x.house(), 2);
  }

  private static void promise25RollBackRefused() {
    SnapshotArena open = staked(kinds(0), kinds(0));
    refuses(open, "rollBack of no duel", INDEX, () -> open.rollBack(1, 0));
    refuses(open, "rollBack of duel -1", INDEX, () -> open.rollBack(-1, 0));
    refuses(open, "rollBack of an open duel to no snapshot", INDEX, () -> open.rollBack(0, 0));
    SnapshotArena x = wonByFirst();
    refuses(x, "rollBack to no snapshot", INDEX, () -> x.rollBack(0, 1));
    refuses(x, "rollBack to snapshot -1", INDEX, () -> x.rollBack(0, -1));
    sell(x, 3, 10, 2);
    x.duel(2, 1);
    refuses(x, "rollBack when the second is in another", STATE, () -> x.rollBack(0, 0));
    SnapshotArena y = wonByFirst();
    y.duel(0, 2);
    refuses(y, "rollBack when the first is in another", STATE, () -> y.rollBack(0, 0));
    y.stake(1, y.make(0, HURT_4_FREE));
    y.stake(1, y.make(2, HURT_1_FREE));
    y.start(1);
    refuses(y, "rollBack when the other one goes on", STATE, () -> y.rollBack(0, 0));
    y.play(1, 5);
    y.endTurn(1);
    y.play(1, 6);
    y.endTurn(1);
    Check.same("rollBack when the other one has ended", y.rollBack(0, 0), 0);
    Check.sameChar("cards of the other one", y.stateOf(6), 'w');
    SnapshotArena closed = wonByFirst();
    closed.close(0);
    refuses(closed, "rollBack of a final duel", UNSUPPORTED, () -> closed.rollBack(0, 0));
    refuses(closed, "rollBack of a final duel to no snapshot", INDEX, () -> closed.rollBack(0, 1));
    closed.duel(0, 1);
    refuses(closed, "rollBack of a final duel, another open", UNSUPPORTED,
        () -> closed.rollBack(0, 0));
  }

  private static void promise26Offer() {
    SnapshotArena x = staked(kinds(0), kinds(0));
    x.make(2, 0);
    for (int wrong : new int[] {-1, 3, Integer.MIN_VALUE, Integer.MAX_VALUE}) {
      refuses(x, "offer of no card", INDEX, () -> x.offer(wrong, 0));
    }
    for (int wrong : new int[] {0, -1, 1000, Integer.MIN_VALUE, Integer.MAX_VALUE}) {
      refuses(x, "offer at a wrong price", ARGUMENT, () -> x.offer(2, wrong));
      refuses(x, "offer of a staked card at a wrong price", ARGUMENT, () -> x.offer(0, wrong));
    }
    refuses(x, "offer of a staked card", STATE, () -> x.offer(0, 1));
    Check.same("offer at 999", x.offer(2, 999), 0);
    refuses(x, "offer of an offered card", STATE, () -> x.offer(2, 1));
    x.start(0);
    refuses(x, "offer of a card in a duel that goes on", STATE, () -> x.offer(1, 1));
    x.withdraw(0);
    for (int i = 1; i < 60; i++) {
      Check.same("offer", x.offer(2, 1), i);
      x.withdraw(i);
    }
    refuses(x, "a 61st offer", STATE, () -> x.offer(2, 1));
    refuses(x, "a 61st offer at a wrong price", ARGUMENT, () -> x.offer(2, 0));
    Check.same("offer of a won card", wonByFirst().offer(3, 1), 0);
  }

  private static void promise27Withdraw() {
    SnapshotArena x = withPlayers(2);
    x.make(0, 0);
    x.make(0, 0);
    x.offer(1, 10);
    refuses(x, "withdraw of no offer", INDEX, () -> x.withdraw(1));
    refuses(x, "withdraw of offer -1", INDEX, () -> x.withdraw(-1));
    Check.same("withdraw", x.withdraw(0), 1);
    Check.sameChar("withdrawn", x.offerState(0), 'g');
    refuses(x, "withdraw again", UNSUPPORTED, () -> x.withdraw(0));
    int second = sell(x, 1, 10, 1);
    refuses(x, "withdraw of what was bought", UNSUPPORTED, () -> x.withdraw(second));
    Check.same("offer again", x.offer(1, 10), 2);
    SnapshotArena undone = wonByFirst();
    sell(undone, 3, 1, 2);
    undone.rollBack(0, 0);
    refuses(undone, "withdraw of what is undone", UNSUPPORTED, () -> undone.withdraw(0));
  }

  private static void promise28Buy() {
    SnapshotArena x = new SnapshotArena();
    x.player(0);
    x.player(41);
    x.make(0, 0);
    x.make(0, 0);
    x.offer(1, 41);
    for (int wrong : new int[] {-1, 2, Integer.MIN_VALUE, Integer.MAX_VALUE}) {
      refuses(x, "buy by nobody", INDEX, () -> x.buy(wrong, 0));
      refuses(x, "buy of no offer", INDEX, () -> x.buy(1, wrong));
    }
    refuses(x, "buy of one's own, without the coins", UNSUPPORTED, () -> x.buy(0, 0));
    Check.same("buy with all coins", x.buy(1, 0), 1);
    Check.same("coins of the buyer", x.coinsOf(1), 0);
    Check.same("coins of the seller", x.coinsOf(0), 36);
    Check.same("coins of the house", x.house(), 5);
    Check.same("coins apart", x.apart(), 0);
    Check.same("owner", x.ownerOf(1), 1);
    Check.sameChar("a bought free card", x.stateOf(1), '-');
    postingIs(x, 2, 1, 0, 1);
    refuses(x, "buy again", UNSUPPORTED, () -> x.buy(0, 0));
    x.offer(0, 1);
    refuses(x, "buy without coins", STATE, () -> x.buy(1, 1));
    x.withdraw(1);
    refuses(x, "buy of a withdrawn offer without coins", UNSUPPORTED, () -> x.buy(1, 1));
    buyOfWonCards();
  }

  private static void buyOfWonCards() {
    SnapshotArena x = wonByFirst();
    sell(x, 3, 100, 2);
    Check.same("coins of the buyer", x.coinsOf(2), 0);
    Check.same("coins of the seller", x.coinsOf(0), 100);
    Check.same("coins apart", x.apart(), 100);
    Check.same("coins of the house", x.house(), 0);
    int again = x.offer(3, 99);
    refuses(x, "buy of the buyer's own", UNSUPPORTED, () -> x.buy(2, again));
    Check.same("bought back by the winner", x.buy(0, again), 3);
    Check.same("coins apart of both", x.apart(), 199);
    x.close(0);
    Check.same("coins of the winner", x.coinsOf(0), 1 + 90);
    Check.same("coins of the one between", x.coinsOf(2), 89);
    Check.same("fees of both", x.house(), 20);
  }

  private static void promise29OfferState() {
    SnapshotArena x = wonByFirst();
    x.offer(3, 10);
    Check.sameChar("an open offer", x.offerState(0), 'o');
    x.buy(1, 0);
    Check.sameChar("a bought offer", x.offerState(0), 'b');
    x.close(0);
    Check.sameChar("a bought offer of a final duel", x.offerState(0), 'b');
    SnapshotArena undone = wonByFirst();
    undone.offer(3, 10);
    undone.rollBack(0, 0);
    Check.sameChar("an open offer, undone with its duel", undone.offerState(0), 'g');
    refuses(x, "offerState of no offer", INDEX, () -> x.offerState(1));
    refuses(x, "offerState of offer -1", INDEX, () -> x.offerState(-1));
  }

  private static void promises30And31Coins() {
    int[] prices = {1, 9, 10, 11, 19, 20, 21, 99, 100};
    int[] fees = {1, 1, 1, 2, 2, 2, 3, 10, 10};
    for (int i = 0; i < prices.length; i++) {
      SnapshotArena x = withPlayers(2);
      x.make(0, 0);
      sell(x, 0, prices[i], 1);
      Check.same("fee of " + prices[i], x.house(), fees[i]);
      Check.same("the rest of " + prices[i], x.coinsOf(0), 100 + prices[i] - fees[i]);
      Check.same("apart for a free card", x.apart(), 0);
      SnapshotArena y = wonByFirst();
      sell(y, 0, prices[i], 2);
      Check.same("no fee yet of " + prices[i], y.house(), 0);
      Check.same("apart for a won card", y.apart(), prices[i]);
      y.close(0);
      Check.same("fee then of " + prices[i], y.house(), fees[i]);
    }
  }

  private static void wonBitsAre(SnapshotArena x, int won, int all) {
    Check.same("wonBits of " + won + " of " + all, x.wonBits(),
        Float.floatToIntBits((float) won / (float) all));
  }

  private static void promise32WonBits() {
    SnapshotArena none = withPlayers(1);
    refuses(none, "wonBits without cards", ARITHMETIC, () -> none.wonBits());
    for (int first = 1; first <= 8; first++) {
      for (int second = 1; second <= 8; second++) {
        wonBitsOfDuel(first, second);
      }
    }
  }

  private static void wonBitsOfDuel(int first, int second) {
    int[] kinds = {12, 12, 12, 0, 0, 0, 0, 0};
    SnapshotArena x = started(java.util.Arrays.copyOf(kinds, first),
        java.util.Arrays.copyOf(kinds, second));
    int won = first + second;
    wonBitsAre(x, 0, won);
    for (int card = 0; card < first; card++) {
      x.play(0, card);
    }
    if (x.endTurn(0) == 'g') {
      for (int card = first; card < won; card++) {
        x.play(0, card);
      }
      Check.sameChar("the end", x.endTurn(0), 'e');
    }
    wonBitsAre(x, won, won);
    for (int all = won + 1; all <= 40; all++) {
      x.make(2, 0);
      wonBitsAre(x, won, all);
    }
    x.close(0);
    wonBitsAre(x, 0, 40);
  }

  private static void promise33MeanPrice() {
    SnapshotArena x = wonByFirst();
    refuses(x, "meanPrice of nothing", ARITHMETIC, () -> x.meanPrice());
    x.offer(0, 99);
    refuses(x, "meanPrice of an open offer", ARITHMETIC, () -> x.meanPrice());
    x.withdraw(0);
    refuses(x, "meanPrice of a withdrawn offer", ARITHMETIC, () -> x.meanPrice());
    int free = x.make(2, 0);
    sell(x, free, 10, 1);
    Check.sameDouble("meanPrice of one", x.meanPrice(), 10.0);
    sell(x, 0, 5, 1);
    Check.sameDouble("meanPrice of two", x.meanPrice(), 7.5);
    sell(x, 1, 5, 1);
    Check.sameDouble("meanPrice of three", x.meanPrice(), 20.0 / 3.0);
    x.rollBack(0, 0);
    Check.sameDouble("meanPrice of what is not undone", x.meanPrice(), 10.0);
    SnapshotArena first = withPlayers(2);
    first.make(0, 0);
    sell(first, 0, 7, 1);
    Check.sameDouble("meanPrice of the first offer", first.meanPrice(), 7.0);
  }

  private static void promise34IsSound() {
    SnapshotArena full = withPlayers(6);
    for (int card = 0; card < 40; card++) {
      full.make(card % 6, 0);
    }
    Check.holds("sound with all players and cards", full.isSound());
    SnapshotArena x = wonByFirst();
    Check.holds("sound when won", x.isSound());
    sell(x, 3, 33, 2);
    Check.holds("sound when sold", x.isSound());
    x.rollBack(0, 0);
    Check.holds("sound when rolled back", x.isSound());
    playAll(x, 0, 1, 2);
    x.endTurn(0);
    sell(x, 3, 33, 2);
    x.close(0);
    Check.holds("sound when final", x.isSound());
    long all = x.coinsOf(0) + x.coinsOf(1) + x.coinsOf(2) + x.house() + x.apart();
    Check.same("all coins", all, 300);
  }
}
