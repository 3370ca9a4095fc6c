/** The boundary cases of players, cards and postings: a test for each sentence that names one. */
public final class BoundaryCardsTest extends Scene {
  public static void main(String[] args) {
    newObject();
    objectsShareNothing();
    coinsRange();
    coinsOutOfRange();
    playersFromZero();
    sixPlayers();
    makeForNobody();
    kindRange();
    kindOutOfRange();
    cardsFromZero();
    fortyCards();
    kindTellsEffectPowerAndCost();
    ownerOfNoCard();
    ownerByPostingsOfNoCard();
    ownerByTheLastPosting();
    stateOfNoCard();
    stateAtEachStep();
    cardsOfNobody();
    cardsOfNoneAndAll();
    coinsOfNobody();
    coinsOfNoneAndMost();
    postingsOfNothing();
    postingPerChange();
    noPostingWithoutChange();
    makingIsFromMinusOne();
    noSuchPosting();
    noSuchThing();
    Check.finish("BoundaryCardsTest");
  }

  private static void newObject() {
    Check.sentence("Promise 1: Creates an arena without players and cards.");
    SnapshotArena x = new SnapshotArena();
    refusesOutside(x, "coinsOf", 0, INDEX, x::coinsOf);
    refusesOutside(x, "ownerOf", 0, INDEX, x::ownerOf);
    refuses(x, "make for player 0", INDEX, () -> x.make(0, 0));
    refuses(x, "duel of players 0 and 1", INDEX, () -> x.duel(0, 1));
    refuses(x, "duelState of duel 0", INDEX, () -> x.duelState(0));
    refuses(x, "offerState of offer 0", INDEX, () -> x.offerState(0));
    refuses(x, "posting 0", INDEX, () -> x.posting(0, 'c'));
    refuses(x, "wonBits", ARITHMETIC, x::wonBits);
    refuses(x, "meanPrice", ARITHMETIC, x::meanPrice);
    Check.same("postings", x.postings(), 0);
    Check.same("blocks", x.blocks(), 0);
    Check.same("house", x.house(), 0);
    Check.same("apart", x.apart(), 0);
    Check.holds("isSound", x.isSound());
  }

  private static void objectsShareNothing() {
    Check.sentence("Promise 1: Creates an arena (one beside another one)");
    String ahead = Look.at(new SnapshotArena());
    SnapshotArena used = wonByFirst();
    sell(used, 3, 30, 2);
    String usedAhead = Look.at(used);
    SnapshotArena x = new SnapshotArena();
    Check.sameText("a new object beside a used one", Look.at(x), ahead);
    Check.same("its first player", x.player(7), 0);
    Check.same("its first card", x.make(0, 5), 0);
    Check.sameText("the used one beside a new one", Look.at(used), usedAhead);
  }

  private static void coinsRange() {
    Check.sentence("Promise 2: `coins`: the coins, 0 to 999");
    SnapshotArena x = new SnapshotArena();
    Check.same("player(0)", x.player(0), 0);
    Check.same("player(1)", x.player(1), 1);
    Check.same("player(998)", x.player(998), 2);
    Check.same("player(999)", x.player(999), 3);
    int[] due = {0, 1, 998, 999};
    for (int i = 0; i < due.length; i++) {
      Check.same("coins of player " + i, x.coinsOf(i), due[i]);
    }
  }

  private static void coinsOutOfRange() {
    Check.sentence("Promise 2: Throws `IllegalArgumentException` if they are out of range");
    SnapshotArena x = new SnapshotArena();
    refusesOutside(x, "player", 1000, ARGUMENT, x::player);
    Check.same("the first player has the number 0 after all that", x.player(5), 0);
  }

  private static void playersFromZero() {
    Check.sentence("Promise 2: Returns the number of the player. (players are numbered from 0)");
    SnapshotArena x = new SnapshotArena();
    for (int i = 0; i < 6; i++) {
      Check.same("player " + i, x.player(100 * i), i);
      refuses(x, "a player with too few coins between", ARGUMENT, () -> x.player(-1));
      Check.same("coins of player " + i, x.coinsOf(i), 100 * i);
    }
  }

  private static void sixPlayers() {
    Check.sentence("Promise 2: Throws `IllegalStateException` if there are 6");
    SnapshotArena x = withPlayers(5);
    Check.same("the 6th player", x.player(0), 5);
    refuses(x, "a 7th player without coins", STATE, () -> x.player(0));
    refuses(x, "a 7th player with all coins", STATE, () -> x.player(999));
    refuses(x, "player 6", INDEX, () -> x.coinsOf(6));
  }

  private static void makeForNobody() {
    Check.sentence("Promise 3: Throws `IndexOutOfBoundsException` if there is no such player");
    SnapshotArena x = withPlayers(2);
    refusesOutside(x, "make for player", 2, INDEX, player -> x.make(player, 0));
    SnapshotArena full = withPlayers(6);
    refusesOutside(full, "make for player", 6, INDEX, player -> full.make(player, 0));
    Check.same("make for the last player", full.make(5, 0), 0);
  }

  private static void kindRange() {
    Check.sentence("Promise 3: `kind`: its kind, 0 to 15");
    SnapshotArena x = withPlayers(1);
    for (int kind = 0; kind <= 15; kind++) {
      Check.same("make of kind " + kind, x.make(0, kind), kind);
    }
  }

  private static void kindOutOfRange() {
    Check.sentence("Promise 3: Throws `IllegalArgumentException` if there is no such kind");
    SnapshotArena x = withPlayers(1);
    refusesOutside(x, "make of kind", 16, ARGUMENT, kind -> x.make(0, kind));
    Check.same("the first card has the number 0 after all that", x.make(0, 0), 0);
  }

  private static void cardsFromZero() {
    Check.sentence("Promise 3: Returns its number. (cards are numbered from 0)");
    SnapshotArena x = withPlayers(6);
    for (int card = 0; card < 40; card++) {
      Check.same("make " + card, x.make(5 - card % 6, 0), card);
      Check.same("owner of card " + card, x.ownerOf(card), 5 - card % 6);
    }
  }

  private static void fortyCards() {
    Check.sentence("Promise 3: Throws `IllegalStateException` if there are 40");
    SnapshotArena x = withPlayers(6);
    for (int card = 0; card < 39; card++) {
      x.make(0, 0);
    }
    Check.same("the 40th card", x.make(5, 15), 39);
    refuses(x, "a 41st card", STATE, () -> x.make(5, 15));
    refuses(x, "a 41st card of one who has none", STATE, () -> x.make(1, 0));
    refuses(x, "card 40", INDEX, () -> x.ownerOf(40));
  }

  private static void kindTellsEffectPowerAndCost() {
    Check.sentence("Terms: its effect is the kind modulo 4, its power the kind divided by 4, rounded "
        + "down, plus 1, its cost the kind modulo 3");
    int[] effectAndPower = {1, 11, 21, 31, 2, 12, 22, 32, 3, 13, 23, 33, 4, 14, 24, 34};
    int[] cost = {0, 1, 2, 0, 1, 2, 0, 1, 2, 0, 1, 2, 0, 1, 2, 0};
    for (int kind = 0; kind <= 15; kind++) {
      SnapshotArena x = started(kinds(kind), kinds(HURT_1_FREE));
      endTurns(x, 0, 2);
      Check.same("mana when kind " + kind + " is played of 2", x.play(0, 0), 2 - cost[kind]);
      x.snapshot(0);
      Check.same("effect of kind " + kind, x.inSnapshot(0, 0, 21), effectAndPower[kind]);
    }
  }

  private static void ownerOfNoCard() {
    Check.sentence("Promise 4: Throws `IndexOutOfBoundsException` if there is no such card");
    SnapshotArena x = withPlayers(2);
    refuses(x, "ownerOf card 0 of none", INDEX, () -> x.ownerOf(0));
    x.make(1, 0);
    refusesOutside(x, "ownerOf", 1, INDEX, x::ownerOf);
    Check.same("owner of the only card", x.ownerOf(0), 1);
    SnapshotArena full = allCards();
    refusesOutside(full, "ownerOf", 40, INDEX, full::ownerOf);
    Check.same("owner of the last card", full.ownerOf(39), 39 % 6);
  }

  private static SnapshotArena allCards() {
    SnapshotArena x = withPlayers(6);
    for (int card = 0; card < 40; card++) {
      x.make(card % 6, 0);
    }
    return x;
  }

  private static void ownerByPostingsOfNoCard() {
    Check.sentence("Promise 5: Throws `IndexOutOfBoundsException` if there is no such card");
    SnapshotArena x = withPlayers(2);
    refuses(x, "ownerByPostings of card 0 of none", INDEX, () -> x.ownerByPostings(0));
    x.make(1, 0);
    refusesOutside(x, "ownerByPostings", 1, INDEX, x::ownerByPostings);
    SnapshotArena full = allCards();
    refusesOutside(full, "ownerByPostings", 40, INDEX, full::ownerByPostings);
    Check.same("owner by postings of the last card", full.ownerByPostings(39), 39 % 6);
  }

  private static void ownerByTheLastPosting() {
    Check.sentence("Promise 5: Returns the owner of a card by the postings. (one, or several of it)");
    SnapshotArena x = allCards();
    for (int card = 0; card < 40; card++) {
      Check.same("by its only posting", x.ownerByPostings(card), card % 6);
    }
    sell(x, 0, 5, 4);
    sell(x, 39, 5, 0);
    sell(x, 0, 5, 2);
    Check.same("by the last of three postings", x.ownerByPostings(0), 2);
    Check.same("by the last of two postings", x.ownerByPostings(39), 0);
    Check.same("of a card that was not sold", x.ownerByPostings(38), 38 % 6);
    sell(x, 0, 5, 0);
    Check.same("back at the first owner", x.ownerByPostings(0), 0);
  }

  private static void stateOfNoCard() {
    Check.sentence("Promise 6: Throws `IndexOutOfBoundsException` if there is no such card");
    SnapshotArena x = withPlayers(2);
    refuses(x, "stateOf card 0 of none", INDEX, () -> x.stateOf(0));
    x.make(1, 0);
    refusesOutside(x, "stateOf", 1, INDEX, x::stateOf);
    SnapshotArena full = allCards();
    refusesOutside(full, "stateOf", 40, INDEX, full::stateOf);
    Check.sameChar("state of the last card", full.stateOf(39), '-');
  }

  private static void stateAtEachStep() {
    Check.sentence("Terms: is free, '-', as at first, staked 's' in a duel that has not ended, or "
        + "won 'w', which it is from the end of the duel in which it was staked till this is final");
    SnapshotArena x = withPlayers(3);
    x.duel(0, 1);
    int first = x.make(0, HURT_1_FREE);
    int second = x.make(1, HURT_1_FREE);
    int other = x.make(1, HURT_1_FREE);
    statesAre(x, "made", first, second, '-');
    x.stake(0, first);
    x.stake(0, second);
    statesAre(x, "staked in an open duel", first, second, 's');
    x.start(0);
    x.snapshot(0);
    statesAre(x, "in a duel that goes on", first, second, 's');
    x.play(0, first);
    x.endTurn(0);
    x.play(0, second);
    statesAre(x, "ahead of the last turn's end", first, second, 's');
    x.endTurn(0);
    statesAre(x, "ended", first, second, 'w');
    sell(x, second, 1, 2);
    statesAre(x, "sold", first, second, 'w');
    x.rollBack(0, 0);
    statesAre(x, "rolled back", first, second, 's');
    x.play(0, first);
    x.endTurn(0);
    x.play(0, second);
    x.endTurn(0);
    x.close(0);
    statesAre(x, "final", first, second, '-');
    Check.sameChar("a card that was never staked", x.stateOf(other), '-');
  }

  private static void statesAre(SnapshotArena x, String when, int first, int second, char due) {
    Check.sameChar("the first one's card, " + when, x.stateOf(first), due);
    Check.sameChar("the second one's card, " + when, x.stateOf(second), due);
  }

  private static void cardsOfNobody() {
    Check.sentence("Promise 7: Throws `IndexOutOfBoundsException` if there is no such player");
    SnapshotArena x = withPlayers(3);
    refusesOutside(x, "cardsOf", 3, INDEX, x::cardsOf);
    SnapshotArena full = allCards();
    refusesOutside(full, "cardsOf", 6, INDEX, full::cardsOf);
  }

  private static void cardsOfNoneAndAll() {
    Check.sentence("Promise 7: Returns how many. (none, and all 40)");
    SnapshotArena x = withPlayers(6);
    for (int card = 0; card < 40; card++) {
      Check.same("cards of player 5", x.cardsOf(5), card);
      x.make(5, 0);
    }
    Check.same("all cards", x.cardsOf(5), 40);
    for (int player = 0; player < 5; player++) {
      Check.same("no cards", x.cardsOf(player), 0);
    }
  }

  private static void coinsOfNobody() {
    Check.sentence("Promise 8: Throws `IndexOutOfBoundsException` if there is no such player");
    SnapshotArena x = withPlayers(3);
    refusesOutside(x, "coinsOf", 3, INDEX, x::coinsOf);
    SnapshotArena full = withPlayers(6);
    refusesOutside(full, "coinsOf", 6, INDEX, full::coinsOf);
    Check.same("coins of the last player", full.coinsOf(5), 100);
  }

  private static void coinsOfNoneAndMost() {
    Check.sentence("Promise 8: Returns the coins. (none, and more than 999)");
    SnapshotArena x = new SnapshotArena();
    x.player(999);
    x.player(999);
    x.make(0, 0);
    sell(x, 0, 999, 1);
    Check.same("coins beyond 999", x.coinsOf(0), 999 + 899);
    Check.same("no coins", x.coinsOf(1), 0);
  }

  private static void postingsOfNothing() {
    Check.sentence("Promise 9: Returns how many postings there were. (none at first)");
    SnapshotArena x = new SnapshotArena();
    Check.same("postings of nothing", x.postings(), 0);
    x.player(10);
    Check.same("postings of a player", x.postings(), 0);
    x.make(0, 0);
    Check.same("postings of a card", x.postings(), 1);
    refuses(x, "a card of no kind", ARGUMENT, () -> x.make(0, 16));
    Check.same("postings after a refused call", x.postings(), 1);
  }

  private static void postingPerChange() {
    Check.sentence("Terms: Each change of an owner is a posting: a card, from whom, to whom");
    SnapshotArena x = started(kinds(HURT_1_FREE, HURT_1_FREE), kinds(HURT_4_FREE, HURT_4_FREE,
        HURT_4_FREE, HURT_4_FREE));
    x.snapshot(0);
    endTurns(x, 0, 1);
    playAll(x, 2, 3, 4);
    Check.same("postings of making", x.postings(), 6);
    x.endTurn(0);
    Check.same("a posting for each card that was lost", x.postings(), 8);
    postingIs(x, 6, 0, 0, 1);
    postingIs(x, 7, 1, 0, 1);
    sell(x, 0, 10, 2);
    postingIs(x, 8, 0, 1, 2);
    x.rollBack(0, 0);
    Check.same("a posting for the sale undone, and for each card back", x.postings(), 12);
    postingIs(x, 9, 0, 2, 1);
    postingIs(x, 10, 0, 1, 0);
    postingIs(x, 11, 1, 1, 0);
  }

  private static void noPostingWithoutChange() {
    Check.sentence("Terms: Each change of an owner is a posting (and nothing else is one)");
    SnapshotArena x = wonByNobody();
    Check.same("a duel that nobody won", x.postings(), 2);
    x.offer(0, 10);
    x.withdraw(0);
    Check.same("an offer withdrawn", x.postings(), 2);
    x.rollBack(0, 0);
    Check.same("a rollback that changes no owner", x.postings(), 2);
    x.endTurn(0);
    x.rollBack(0, 0);
    Check.same("a rollback of a duel that goes on", x.postings(), 2);
    SnapshotArena won = wonByFirst();
    int ahead = won.postings();
    won.close(0);
    Check.same("a duel that is closed", won.postings(), ahead);
  }

  private static void makingIsFromMinusOne() {
    Check.sentence("Terms: -1 for the making");
    SnapshotArena x = allCards();
    for (int card = 0; card < 40; card++) {
      postingIs(x, card, card, -1, card % 6);
    }
  }

  private static void noSuchPosting() {
    Check.sentence("Promise 10: Throws `IndexOutOfBoundsException` if there is no such posting");
    SnapshotArena none = withPlayers(1);
    refuses(none, "posting 0 of none", INDEX, () -> none.posting(0, 'c'));
    SnapshotArena x = wonByFirst();
    Check.same("postings", x.postings(), 7);
    for (char what : new char[] {'c', 'f', 't'}) {
      refusesOutside(x, "posting " + what, 7, INDEX, index -> x.posting(index, what));
    }
    postingIs(x, 0, 0, -1, 0);
    postingIs(x, 6, 4, 1, 0);
  }

  private static void noSuchThing() {
    Check.sentence("Promise 10: Throws `IllegalArgumentException` if there is no such thing");
    SnapshotArena x = wonByFirst();
    for (char what : new char[] {0, 'b', 'd', 'e', 'g', 's', 'u', 'C', 'F', 'T', 65535}) {
      refuses(x, "posting of " + (int) what, ARGUMENT, () -> x.posting(6, what));
    }
    int answered = 0;
    for (int what = 0; what < 65536; what++) {
      try {
        x.posting(0, (char) what);
        answered++;
      } catch (IllegalArgumentException e) {
        Check.holds("not one of the three: " + what, what != 'c' && what != 'f' && what != 't');
      }
    }
    Check.same("things in a posting", answered, 3);
  }
}
