/** The boundary cases of the market and of all coins: a test for each sentence that names one. */
public final class BoundaryMarketTest extends Scene {
  public static void main(String[] args) {
    offers();
    withdrawals();
    buying();
    wonCards();
    asking();
    shares();
    means();
    soundness();
    Check.finish("BoundaryMarketTest");
  }

  /** Players with these coins; each has one card, whose number is the player's. */
  private static SnapshotArena withCoins(int... coins) {
    SnapshotArena x = new SnapshotArena();
    for (int player = 0; player < coins.length; player++) {
      x.player(coins[player]);
      x.make(player, HURT_1_FREE);
    }
    return x;
  }

  // ---- offer

  private static void offers() {
    offerOfNoCard();
    offerPrices();
    offerAtAWrongPrice();
    offerOfAStakedCard();
    offerOfAnOfferedCard();
    sixtyOffers();
    offersFromZero();
    offerOfAWonCard();
  }

  private static void offerOfNoCard() {
    Check.sentence("Promise 26: Throws `IndexOutOfBoundsException` if there is no such card");
    SnapshotArena none = withPlayers(2);
    refuses(none, "offer of card 0 of none", INDEX, () -> none.offer(0, 1));
    SnapshotArena x = withCoins(10, 10);
    refusesOutside(x, "offer of card", 2, INDEX, card -> x.offer(card, 1));
    Check.same("offer of the last card, after all that", x.offer(1, 1), 0);
  }

  private static void offerPrices() {
    Check.sentence("Promise 26: `price`: the price, 1 to 999");
    int[] prices = {1, 2, 998, 999};
    for (int price : prices) {
      SnapshotArena x = withCoins(0, 999);
      Check.same("offer at " + price, x.offer(0, price), 0);
      x.buy(1, 0);
      Check.same("coins of the buyer", x.coinsOf(1), 999 - price);
    }
  }

  private static void offerAtAWrongPrice() {
    Check.sentence("Promise 26: Throws `IllegalArgumentException` if the price is out of range");
    SnapshotArena x = withCoins(10, 10);
    refuses(x, "offer at 0", ARGUMENT, () -> x.offer(0, 0));
    refusesOutside(x, "offer at", 1000, ARGUMENT, price -> x.offer(0, price));
    Check.same("the first offer, after all that", x.offer(0, 1), 0);
  }

  private static void offerOfAStakedCard() {
    Check.sentence("Promise 26: Throws `IllegalStateException` if it is staked");
    SnapshotArena x = staked(kinds(HURT_1_FREE), kinds(HURT_1_FREE));
    refuses(x, "a card staked in an open duel", STATE, () -> x.offer(0, 1));
    x.start(0);
    x.snapshot(0);
    refuses(x, "a card staked in a duel that goes on", STATE, () -> x.offer(1, 1));
    x.play(0, 0);
    refuses(x, "a card that was played", STATE, () -> x.offer(0, 1));
    x.endTurn(0);
    x.play(0, 1);
    x.endTurn(0);
    Check.same("a won card", x.offer(0, 1), 0);
    x.rollBack(0, 0);
    refuses(x, "a card staked again", STATE, () -> x.offer(0, 1));
  }

  private static void offerOfAnOfferedCard() {
    Check.sentence("Promise 26: or offered");
    SnapshotArena x = withCoins(100, 100);
    x.offer(0, 10);
    refuses(x, "an offered card", STATE, () -> x.offer(0, 10));
    refuses(x, "an offered card at another price", STATE, () -> x.offer(0, 9));
    Check.same("another card", x.offer(1, 10), 1);
    x.withdraw(0);
    Check.same("a card whose offer was withdrawn", x.offer(0, 10), 2);
    x.buy(1, 2);
    Check.same("a card that was bought", x.offer(0, 10), 3);
    SnapshotArena won = wonByFirst();
    won.offer(3, 10);
    refuses(won, "an offered won card", STATE, () -> won.offer(3, 10));
    won.close(0);
    refuses(won, "a card offered when it was won", STATE, () -> won.offer(3, 10));
  }

  private static void sixtyOffers() {
    Check.sentence("Promise 26: or there are 60 offers");
    SnapshotArena x = withPlayers(2);
    x.make(0, 0);
    x.make(0, 0);
    for (int offer = 0; offer < 59; offer++) {
      x.offer(0, 1);
      x.withdraw(offer);
    }
    Check.same("the 60th offer", x.offer(0, 1), 59);
    refuses(x, "a 61st offer", STATE, () -> x.offer(1, 1));
    x.buy(1, 59);
    refuses(x, "a 61st offer, none is open", STATE, () -> x.offer(0, 1));
    refuses(x, "offer 60", INDEX, () -> x.offerState(60));
    Check.sameChar("offer 59", x.offerState(59), 'b');
    SnapshotArena open = withPlayers(6);
    for (int card = 0; card < 40; card++) {
      open.make(card % 6, 0);
      Check.same("open offers of all cards", open.offer(card, 1), card);
    }
    for (int offer = 40; offer < 60; offer++) {
      open.withdraw(offer - 40);
      open.offer(offer - 40, 1);
    }
    refuses(open, "a 61st offer, 40 are open", STATE, () -> open.offer(0, 1));
    open.withdraw(59);
    refuses(open, "a 61st offer, 39 are open", STATE, () -> open.offer(19, 1));
  }

  private static void offersFromZero() {
    Check.sentence("Promise 26: Returns the number of the offer. (offers are numbered from 0)");
    SnapshotArena x = withCoins(10, 10, 10);
    Check.same("of the last card", x.offer(2, 5), 0);
    refuses(x, "at no price", ARGUMENT, () -> x.offer(0, 0));
    Check.same("of the first card", x.offer(0, 5), 1);
    x.withdraw(0);
    Check.same("of the second card", x.offer(1, 5), 2);
  }

  private static void offerOfAWonCard() {
    Check.sentence("Terms: A player offers a card that is free or won");
    SnapshotArena x = wonByFirst();
    for (int card = 0; card < 5; card++) {
      Check.same("offer of won card " + card, x.offer(card, 1), card);
    }
    x.close(0);
    x.withdraw(0);
    Check.same("offer of a free card", x.offer(0, 1), 5);
  }

  // ---- withdraw

  private static void withdrawals() {
    withdrawOfNoOffer();
    withdrawOfWhatIsNotOpen();
    withdrawReturnsTheCard();
  }

  private static void withdrawOfNoOffer() {
    Check.sentence("Promise 27: Throws `IndexOutOfBoundsException` if there is no such offer");
    SnapshotArena x = withCoins(10, 10);
    refuses(x, "withdraw of offer 0 of none", INDEX, () -> x.withdraw(0));
    x.offer(0, 1);
    refusesOutside(x, "withdraw", 1, INDEX, x::withdraw);
  }

  private static void withdrawOfWhatIsNotOpen() {
    Check.sentence("Promise 27: Throws `UnsupportedOperationException` if it is not open");
    SnapshotArena x = withCoins(10, 10);
    x.offer(0, 1);
    x.withdraw(0);
    refuses(x, "withdraw again", UNSUPPORTED, () -> x.withdraw(0));
    x.offer(0, 1);
    refuses(x, "withdraw of the first offer when there is another", UNSUPPORTED,
        () -> x.withdraw(0));
    x.buy(1, 1);
    refuses(x, "withdraw of what was bought", UNSUPPORTED, () -> x.withdraw(1));
    SnapshotArena won = wonByFirst();
    won.offer(3, 1);
    won.rollBack(0, 0);
    refuses(won, "withdraw of what is gone with its duel", UNSUPPORTED, () -> won.withdraw(0));
  }

  private static void withdrawReturnsTheCard() {
    Check.sentence("Promise 27: Returns its card.");
    SnapshotArena x = withPlayers(6);
    for (int card = 0; card < 40; card++) {
      x.make(5, 0);
    }
    x.offer(39, 1);
    x.offer(0, 1);
    Check.same("the last card", x.withdraw(0), 39);
    Check.same("card 0", x.withdraw(1), 0);
    Check.same("nothing was paid", x.coinsOf(5), 100);
    Check.same("no owner has changed", x.postings(), 40);
  }

  // ---- buy

  private static void buying() {
    buyByNobody();
    buyOfWhatIsNotOpen();
    buyOfOnesOwn();
    buyForTooMuch();
    buyForAllCoins();
    feeOfFreeCards();
    buyMovesTheCard();
  }

  private static void buyByNobody() {
    Check.sentence("Promise 28: Throws `IndexOutOfBoundsException` if there is no such player or "
        + "offer");
    SnapshotArena x = withCoins(10, 10);
    refuses(x, "buy of offer 0 of none", INDEX, () -> x.buy(1, 0));
    x.offer(0, 1);
    refusesOutside(x, "buy by player", 2, INDEX, player -> x.buy(player, 0));
    refusesOutside(x, "buy of offer", 1, INDEX, offer -> x.buy(1, offer));
    Check.same("buy by the last player", x.buy(1, 0), 0);
  }

  private static void buyOfWhatIsNotOpen() {
    Check.sentence("Promise 28: Throws `UnsupportedOperationException` if it is not open");
    SnapshotArena x = withCoins(100, 100, 100);
    x.offer(0, 1);
    x.withdraw(0);
    refuses(x, "buy of what was withdrawn", UNSUPPORTED, () -> x.buy(1, 0));
    x.offer(0, 1);
    x.buy(1, 1);
    refuses(x, "buy of what was bought", UNSUPPORTED, () -> x.buy(2, 1));
    refuses(x, "buy of it by the seller", UNSUPPORTED, () -> x.buy(0, 1));
    refuses(x, "buy of it by the buyer", UNSUPPORTED, () -> x.buy(1, 1));
    SnapshotArena won = wonByFirst();
    won.offer(3, 1);
    won.rollBack(0, 0);
    refuses(won, "buy of what is gone with its duel", UNSUPPORTED, () -> won.buy(2, 0));
  }

  private static void buyOfOnesOwn() {
    Check.sentence("Promise 28: or the card is this player's");
    SnapshotArena x = withCoins(100, 100);
    x.offer(0, 1);
    refuses(x, "buy of one's own", UNSUPPORTED, () -> x.buy(0, 0));
    x.buy(1, 0);
    x.offer(0, 1);
    refuses(x, "buy of what one has bought", UNSUPPORTED, () -> x.buy(1, 1));
    Check.same("buy by the one who sold it", x.buy(0, 1), 0);
    SnapshotArena won = wonByFirst();
    won.offer(3, 1);
    refuses(won, "buy by the winner", UNSUPPORTED, () -> won.buy(0, 0));
    Check.same("buy by the loser", won.buy(1, 0), 3);
  }

  private static void buyForTooMuch() {
    Check.sentence("Promise 28: Throws `IllegalStateException` if the player has less than the "
        + "price");
    SnapshotArena x = withCoins(0, 0, 9, 998);
    x.offer(0, 10);
    refuses(x, "buy without coins", STATE, () -> x.buy(1, 0));
    refuses(x, "buy with one coin too few", STATE, () -> x.buy(2, 0));
    x.offer(1, 999);
    refuses(x, "buy at 999 with 998", STATE, () -> x.buy(3, 1));
    x.offer(2, 1);
    refuses(x, "buy at 1 with none", STATE, () -> x.buy(0, 2));
    SnapshotArena won = wonByFirst();
    sell(won, 3, 90, 2);
    won.offer(4, 11);
    refuses(won, "buy with what was paid for another", STATE, () -> won.buy(2, 1));
    won.player(0);
    endedDuel(won, 0, 3);
    int offer = won.offer(0, 200);
    refuses(won, "buy of a won card without the coins", STATE, () -> won.buy(1, offer));
  }

  private static void buyForAllCoins() {
    Check.sentence("Promise 28: if the player has less than the price (and not if it is as much)");
    SnapshotArena x = withCoins(0, 10, 999);
    x.offer(0, 10);
    Check.same("buy with just the price", x.buy(1, 0), 0);
    Check.same("coins then", x.coinsOf(1), 0);
    x.offer(1, 999);
    Check.same("buy at 999 with 999", x.buy(2, 1), 1);
    Check.same("coins then", x.coinsOf(2), 0);
    Check.same("coins of the seller", x.coinsOf(1), 899);
    SnapshotArena won = wonByFirst();
    sell(won, 3, 90, 2);
    Check.same("a won card with what is left", won.buy(2, won.offer(4, 10)), 4);
    Check.same("coins then", won.coinsOf(2), 0);
  }

  private static void feeOfFreeCards() {
    Check.sentence("Terms: a fee of a tenth, rounded up, is the house's, and the rest the seller's, at "
        + "once, if the card is free");
    int[] prices = {1, 2, 9, 10, 11, 19, 20, 21, 30, 31, 99, 100, 101, 990, 991, 998, 999};
    int[] fees = {1, 1, 1, 1, 2, 2, 2, 3, 3, 4, 10, 10, 11, 99, 100, 100, 100};
    for (int i = 0; i < prices.length; i++) {
      SnapshotArena x = withCoins(0, 999);
      sell(x, 0, prices[i], 1);
      Check.same("fee of " + prices[i], x.house(), fees[i]);
      Check.same("rest of " + prices[i], x.coinsOf(0), prices[i] - fees[i]);
      Check.same("coins of the buyer", x.coinsOf(1), 999 - prices[i]);
      Check.same("nothing is apart", x.apart(), 0);
      Check.sameChar("the card stays free", x.stateOf(0), '-');
    }
  }

  private static void buyMovesTheCard() {
    Check.sentence("Promise 28: Returns the card.");
    SnapshotArena x = withPlayers(6);
    for (int card = 0; card < 40; card++) {
      x.make(0, 0);
    }
    x.offer(39, 1);
    x.offer(0, 1);
    Check.same("the last card", x.buy(5, 0), 39);
    Check.same("card 0", x.buy(4, 1), 0);
    Check.same("owner of the last card", x.ownerOf(39), 5);
    Check.same("owner of card 0", x.ownerOf(0), 4);
    Check.same("cards of the seller", x.cardsOf(0), 38);
    postingIs(x, 40, 39, 0, 5);
    postingIs(x, 41, 0, 0, 4);
    Check.same("postings", x.postings(), 42);
  }

  // ---- won cards

  private static void wonCards() {
    priceKeptApart();
    feeWhenFinal();
    wonAsBefore();
    chainOfSales();
    offerOpenWhenFinal();
    twoDuelsApart();
  }

  private static void priceKeptApart() {
    Check.sentence("Terms: If it is won, the price is kept apart till the duel is final, or goes back");
    SnapshotArena x = wonByFirst();
    sell(x, 3, 1, 2);
    Check.same("apart", x.apart(), 1);
    sell(x, 0, 99, 2);
    Check.same("apart", x.apart(), 100);
    Check.same("the buyer has paid", x.coinsOf(2), 0);
    Check.same("the seller has nothing of it", x.coinsOf(0), 100);
    Check.same("nor has the house", x.house(), 0);
    x.rollBack(0, 0);
    Check.same("it goes back", x.apart(), 0);
    Check.same("to the buyer", x.coinsOf(2), 100);
    Check.same("nothing to the seller", x.coinsOf(0), 100);
    Check.same("nothing to the house", x.house(), 0);
  }

  private static void feeWhenFinal() {
    Check.sentence("Terms: then the fee is taken");
    int[] prices = {1, 9, 10, 11, 99, 100, 999};
    int[] fees = {1, 1, 1, 2, 10, 10, 100};
    for (int i = 0; i < prices.length; i++) {
      SnapshotArena x = new SnapshotArena();
      x.player(0);
      x.player(0);
      x.player(999);
      endedDuel(x, 0, 1);
      sell(x, 1, prices[i], 2);
      Check.same("no fee yet", x.house(), 0);
      x.close(0);
      Check.same("fee of " + prices[i], x.house(), fees[i]);
      Check.same("rest of " + prices[i], x.coinsOf(0), prices[i] - fees[i]);
      Check.same("apart", x.apart(), 0);
    }
  }

  private static void wonAsBefore() {
    Check.sentence("Terms: The card is the buyer's, won as before.");
    SnapshotArena x = wonByFirst();
    sell(x, 3, 1, 2);
    Check.sameChar("state", x.stateOf(3), 'w');
    Check.same("owner", x.ownerOf(3), 2);
    x.duel(2, 1);
    refuses(x, "stake by the buyer", STATE, () -> x.stake(1, 3));
    Check.same("close frees it, too", x.close(0), 5);
    Check.same("stake by the buyer then", x.stake(1, 3), 1);
  }

  private static void chainOfSales() {
    Check.sentence("Terms: what was paid [..] goes to their sellers (of a card that was sold again)");
    SnapshotArena x = new SnapshotArena();
    x.player(0);
    x.player(0);
    x.player(20);
    x.player(30);
    endedDuel(x, 0, 1);
    sell(x, 1, 20, 2);
    sell(x, 1, 30, 3);
    Check.same("the first buyer is not paid yet", x.coinsOf(2), 0);
    int offer = x.offer(0, 1);
    refuses(x, "and can't pay with it", STATE, () -> x.buy(2, offer));
    Check.same("apart", x.apart(), 50);
    x.close(0);
    Check.same("the winner", x.coinsOf(0), 18);
    Check.same("the first buyer", x.coinsOf(2), 27);
    Check.same("the second buyer", x.coinsOf(3), 0);
    Check.same("the house", x.house(), 5);
    Check.same("the card stays with the second buyer", x.ownerOf(1), 3);
  }

  private static void offerOpenWhenFinal() {
    Check.sentence("Terms: at once, if the card is free (when it is bought, not when it is offered)");
    SnapshotArena x = wonByFirst();
    x.offer(3, 50);
    x.close(0);
    Check.sameChar("the offer is open", x.offerState(0), 'o');
    x.buy(2, 0);
    Check.same("paid at once", x.coinsOf(0), 145);
    Check.same("the fee, too", x.house(), 5);
    Check.same("nothing is apart", x.apart(), 0);
  }

  private static void twoDuelsApart() {
    Check.sentence("Terms: kept apart till the duel is final (and not another one)");
    SnapshotArena x = withPlayers(3);
    endedDuel(x, 0, 1);
    endedDuel(x, 0, 1);
    sell(x, 1, 10, 2);
    sell(x, 3, 20, 2);
    x.close(1);
    Check.same("the price of duel 0 is apart", x.apart(), 10);
    Check.same("the price of duel 1 is paid", x.coinsOf(0), 118);
    Check.same("the fee of duel 1", x.house(), 2);
    Check.same("only the sale of duel 0 is undone", x.rollBack(0, 0), 1);
    Check.same("apart", x.apart(), 0);
    Check.same("owner of the card of duel 1", x.ownerOf(3), 2);
    Check.same("coins of the buyer", x.coinsOf(2), 80);
  }

  // ---- offerState, house, apart

  private static void asking() {
    offerStateOfNoOffer();
    offerStates();
    houseOfNothing();
    apartOfNothing();
    mostCoins();
  }

  private static void offerStateOfNoOffer() {
    Check.sentence("Promise 29: Throws `IndexOutOfBoundsException` if there is no such offer");
    SnapshotArena x = withCoins(10, 10);
    refuses(x, "offerState of offer 0 of none", INDEX, () -> x.offerState(0));
    x.offer(0, 1);
    refusesOutside(x, "offerState", 1, INDEX, x::offerState);
  }

  private static void offerStates() {
    Check.sentence("Promise 29: Returns 'o' open, 'b' bought, 'g' gone: withdrawn, or undone with its "
        + "duel.");
    SnapshotArena x = wonByFirst();
    x.offer(0, 1);
    x.offer(1, 1);
    x.offer(2, 1);
    x.withdraw(0);
    x.buy(1, 1);
    Check.sameChar("withdrawn", x.offerState(0), 'g');
    Check.sameChar("bought", x.offerState(1), 'b');
    Check.sameChar("open", x.offerState(2), 'o');
    x.rollBack(0, 0);
    Check.sameChar("withdrawn ahead", x.offerState(0), 'g');
    Check.sameChar("a sale undone", x.offerState(1), 'g');
    Check.sameChar("an open one undone", x.offerState(2), 'g');
    SnapshotArena closed = wonByFirst();
    closed.offer(0, 1);
    closed.offer(1, 1);
    closed.buy(2, 0);
    closed.close(0);
    Check.sameChar("bought, and final", closed.offerState(0), 'b');
    Check.sameChar("open, and final", closed.offerState(1), 'o');
  }

  private static void houseOfNothing() {
    Check.sentence("Promise 30: Returns the coins of the house. (none at first)");
    SnapshotArena x = withCoins(10, 10);
    Check.same("at first", x.house(), 0);
    x.offer(0, 10);
    Check.same("of an open offer", x.house(), 0);
    refuses(x, "buy of one's own", UNSUPPORTED, () -> x.buy(0, 0));
    Check.same("of a sale refused", x.house(), 0);
    x.buy(1, 0);
    Check.same("of a sale", x.house(), 1);
  }

  private static void apartOfNothing() {
    Check.sentence("Promise 31: Returns the sum. (none at first)");
    SnapshotArena x = wonByFirst();
    Check.same("at first", x.apart(), 0);
    x.offer(3, 10);
    Check.same("of an open offer", x.apart(), 0);
    x.withdraw(0);
    Check.same("of a withdrawn offer", x.apart(), 0);
    x.make(2, 0);
    sell(x, 5, 10, 0);
    Check.same("of a free card", x.apart(), 0);
  }

  private static void mostCoins() {
    Check.sentence("Promise 31: Returns the sum. (of all coins that there can be)");
    SnapshotArena x = new SnapshotArena();
    for (int player = 0; player < 6; player++) {
      x.player(999);
    }
    int[] dueApart = {0, 999, 1998, 2997, 3996};
    endedDuel(x, 0, 1);
    for (int i = 0; i < 5; i++) {
      Check.same("apart", x.apart(), dueApart[i]);
      sell(x, 1, 999, i + 1);
    }
    Check.same("apart of five", x.apart(), 4995);
    Check.holds("sound", x.isSound());
    x.close(0);
    Check.same("the house", x.house(), 500);
    Check.same("the winner", x.coinsOf(0), 999 + 899);
    Check.same("a buyer who sold it", x.coinsOf(1), 899);
    Check.same("the last buyer", x.coinsOf(5), 0);
    Check.holds("sound when final", x.isSound());
  }

  // ---- wonBits, meanPrice

  private static void shares() {
    shareOfNothing();
    shareOfNoneAndAll();
    shareOfSome();
  }

  private static void shareOfNothing() {
    Check.sentence("Promise 32: Throws `ArithmeticException` if there are no cards");
    SnapshotArena x = new SnapshotArena();
    refuses(x, "wonBits of a new object", ARITHMETIC, x::wonBits);
    x.player(0);
    refuses(x, "wonBits of a player without cards", ARITHMETIC, x::wonBits);
    x.make(0, 0);
    Check.same("wonBits of one card", x.wonBits(), 0);
  }

  private static void shareOfNoneAndAll() {
    Check.sentence("Promise 32: as Float.floatToIntBits tells it (none, and all)");
    SnapshotArena x = wonByNobody();
    Check.same("all of 2", x.wonBits(), 0x3f800000);
    x.rollBack(0, 0);
    Check.same("none of 2, as they are staked", x.wonBits(), 0);
    SnapshotArena all = withPlayers(2);
    for (int duel = 0; duel < 3; duel++) {
      all.duel(0, 1);
      for (int i = 0; i < (duel == 2 ? 8 : 16); i++) {
        all.stake(duel, all.make(i % 2, i % 2 == 0 ? 12 : 0));
      }
      Check.holds("less than all", all.wonBits() < 0x3f800000);
      all.start(duel);
      int first = 16 * duel;
      all.play(duel, first);
      all.play(duel, first + 2);
      all.play(duel, first + 4);
      Check.sameChar("ended", all.endTurn(duel), 'e');
      Check.same("all", all.wonBits(), 0x3f800000);
    }
    for (int duel = 0; duel < 3; duel++) {
      all.close(duel);
    }
    Check.same("none of 40, as they are free", all.wonBits(), 0);
  }

  private static void shareOfSome() {
    Check.sentence("Promise 32: Returns their number divided by that of all cards, both converted to "
        + "float");
    int[] all = {2, 3, 4, 5, 7, 31, 32, 33, 39, 40};
    int[] due = {0x3f800000, 0x3f2aaaab, 0x3f000000, 0x3ecccccd, 0x3e924925, 0x3d842108,
        0x3d800000, 0x3d783e10, 0x3d520d21, 0x3d4ccccd};
    SnapshotArena x = wonByNobody();
    int cards = 2;
    for (int i = 0; i < all.length; i++) {
      while (cards < all[i]) {
        x.make(2, 0);
        cards++;
      }
      Check.same("2 of " + all[i], x.wonBits(), due[i]);
      Check.same("2 of " + all[i], x.wonBits(), Float.floatToIntBits(2.0f / (float) all[i]));
    }
  }

  private static void means() {
    meanOfNothing();
    meanOfUndone();
    meanOfSome();
  }

  private static void meanOfNothing() {
    Check.sentence("Promise 33: Throws `ArithmeticException` if there was nothing");
    SnapshotArena x = new SnapshotArena();
    refuses(x, "meanPrice of a new object", ARITHMETIC, x::meanPrice);
    SnapshotArena y = withCoins(10, 10);
    y.offer(0, 10);
    refuses(y, "meanPrice of an open offer", ARITHMETIC, y::meanPrice);
    y.withdraw(0);
    refuses(y, "meanPrice of a withdrawn offer", ARITHMETIC, y::meanPrice);
    y.offer(0, 10);
    y.buy(1, 1);
    Check.sameDouble("meanPrice of one", y.meanPrice(), 10.0);
  }

  private static void meanOfUndone() {
    Check.sentence("Promise 33: Returns the mean price of what was bought, not undone since.");
    SnapshotArena x = wonByFirst();
    sell(x, 3, 10, 2);
    sell(x, 4, 15, 2);
    Check.sameDouble("of two won cards", x.meanPrice(), 12.5);
    x.rollBack(0, 0);
    refuses(x, "meanPrice of what is undone", ARITHMETIC, x::meanPrice);
    int free = x.make(2, 0);
    sell(x, free, 7, 0);
    Check.sameDouble("of a free card", x.meanPrice(), 7.0);
    playAll(x, 0, 1, 2);
    x.endTurn(0);
    sell(x, 3, 8, 2);
    Check.sameDouble("of a free and a won card", x.meanPrice(), 7.5);
    x.close(0);
    Check.sameDouble("of both when final", x.meanPrice(), 7.5);
  }

  private static void meanOfSome() {
    Check.sentence("Promise 33: Returns the sum divided by their number, both converted to double.");
    SnapshotArena x = withCoins(999, 999);
    int sum = 0;
    for (int sale = 0; sale < 60; sale++) {
      int price = 1 + sale % 7 * 3;
      sum += price;
      sell(x, 0, price, (sale + 1) % 2);
      Check.sameDouble("mean of " + (sale + 1), x.meanPrice(), (double) sum / (sale + 1));
    }
    SnapshotArena thirds = withCoins(999, 999);
    sell(thirds, 0, 999, 1);
    Check.sameDouble("mean of the highest price", thirds.meanPrice(), 999.0);
    sell(thirds, 1, 1, 0);
    sell(thirds, 0, 1, 0);
    Check.sameDouble("a mean that no double is", thirds.meanPrice(), 1001.0 / 3.0);
  }

  // ---- isSound

  private static void soundness() {
    soundOfNothing();
    soundAtEachStep();
    eachCardHasOneOwner();
  }

  private static void soundOfNothing() {
    Check.sentence("Promise 34: Returns whether both hold. (of nothing, and of all there can be)");
    SnapshotArena x = new SnapshotArena();
    Check.holds("a new object", x.isSound());
    for (int player = 0; player < 6; player++) {
      x.player(999);
      Check.holds("with players", x.isSound());
    }
    for (int card = 0; card < 40; card++) {
      x.make(card % 6, card % 16);
      Check.holds("with cards", x.isSound());
    }
  }

  private static void soundAtEachStep() {
    Check.sentence("Promise 34: all coins, those of the house and those kept apart included, are what "
        + "players began with");
    SnapshotArena x = wonByFirst();
    coinsAre(x, 300);
    sell(x, 3, 33, 2);
    coinsAre(x, 300);
    x.player(7);
    coinsAre(x, 307);
    sell(x, 3, 7, 3);
    coinsAre(x, 307);
    x.rollBack(0, 0);
    coinsAre(x, 307);
    playAll(x, 0, 1, 2);
    x.endTurn(0);
    sell(x, 4, 99, 1);
    coinsAre(x, 307);
    x.close(0);
    coinsAre(x, 307);
    sell(x, 4, 11, 2);
    coinsAre(x, 307);
  }

  private static void coinsAre(SnapshotArena x, long due) {
    long sum = x.house() + x.apart();
    for (int player = 0; player < 3; player++) {
      sum += x.coinsOf(player);
    }
    if (due > 300) {
      sum += x.coinsOf(3);
    }
    Check.same("all coins", sum, due);
    Check.holds("sound", x.isSound());
  }

  private static void eachCardHasOneOwner() {
    Check.sentence("Terms: Each card has one owner at all times, in any order of rollbacks and sales");
    SnapshotArena x = wonByFirst();
    ownersHold(x);
    sell(x, 3, 5, 1);
    sell(x, 0, 5, 2);
    ownersHold(x);
    endedDuel(x, 1, 2);
    ownersHold(x);
    sell(x, 6, 5, 0);
    x.rollBack(0, 0);
    ownersHold(x);
    playAll(x, 0, 1, 2);
    x.endTurn(0);
    ownersHold(x);
    sell(x, 3, 5, 2);
    x.rollBack(1, 0);
    ownersHold(x);
    x.close(0);
    ownersHold(x);
  }

  private static void ownersHold(SnapshotArena x) {
    int[] cards = new int[3];
    int all = 0;
    for (int i = 0; i < x.postings(); i++) {
      all = Math.max(all, x.posting(i, 'c') + 1);
    }
    for (int card = 0; card < all; card++) {
      Check.same("owner by postings of " + card, x.ownerByPostings(card), x.ownerOf(card));
      cards[x.ownerOf(card)]++;
    }
    for (int player = 0; player < 3; player++) {
      Check.same("cards of player " + player, x.cardsOf(player), cards[player]);
    }
    Check.holds("sound", x.isSound());
  }
}
