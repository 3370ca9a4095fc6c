import java.util.ArrayList;
import java.util.Arrays;
import java.util.NoSuchElementException;

/**
 * A card arena: duels with staked cards and a stack of effects, snapshots of a duel, rollbacks by a
 * judge, and a market on which won cards are sold before their duel is final.
 */
public final class SnapshotArena {
  private static final int MAX_PLAYERS = 6;
  private static final int MAX_COINS = 999;
  private static final int MAX_CARDS = 40;
  private static final int MAX_KIND = 15;
  private static final int MAX_DUELS = 8;
  private static final int MAX_STAKED = 8;
  private static final int MAX_SNAPSHOTS = 6;
  private static final int MAX_OFFERS = 60;
  private static final int MAX_PRICE = 999;

  private static final int NOBODY = -1;

  private static final char FREE = '-';
  private static final char STAKED = 's';
  private static final char WON = 'w';

  private static final char OPEN = 'o';
  private static final char GOING = 'g';
  private static final char ENDED = 'e';
  private static final char FINAL = 'f';

  private static final char BOUGHT = 'b';
  private static final char GONE = 'g';

  private static final int NUMBERS = 24;
  private static final int BLOCK_LENGTH = 4;
  private static final int BLOCKS_OF_SNAPSHOT = 6;

  private final int[] coins;
  private int playerCount;
  private int coinsBegunWith;
  private int houseCoins;
  private int coinsApart;
  private final ArrayList<Card> cards;
  private final ArrayList<Duel> duels;
  private final ArrayList<Offer> offers;
  /** The offers in the order in which they were bought, as rollbacks undo the latest sale first. */
  private final ArrayList<Offer> sales;
  private final Ledger ledger;
  private final BlockStore store;
  /** Made once and used by each snapshot and rollback, so that these make nothing. */
  private final int[] numbers;

  public SnapshotArena() {
    coins = new int[MAX_PLAYERS];
    cards = new ArrayList<Card>();
    duels = new ArrayList<Duel>();
    offers = new ArrayList<Offer>();
    sales = new ArrayList<Offer>();
    ledger = new Ledger();
    store = new BlockStore();
    numbers = new int[NUMBERS];
  }

  // ---- players and cards

  public int player(int coins) throws IllegalArgumentException, IllegalStateException {
    if (coins < 0 || coins > MAX_COINS) {
      throw new IllegalArgumentException("coins out of range");
    }
    if (playerCount >= MAX_PLAYERS) {
      throw new IllegalStateException("there are 6 players");
    }
    int number = playerCount;
    this.coins[number] = coins;
    coinsBegunWith += coins;
    playerCount++;
    return number;
  }

  public int make(int player, int kind)
      throws IndexOutOfBoundsException, IllegalArgumentException, IllegalStateException {
    needPlayer(player);
    if (kind < 0 || kind > MAX_KIND) {
      throw new IllegalArgumentException("no such kind");
    }
    if (cards.size() >= MAX_CARDS) {
      throw new IllegalStateException("there are 40 cards");
    }
    int number = cards.size();
    cards.add(new Card(number, kind, player));
    ledger.enter(number, NOBODY, player);
    return number;
  }

  public int ownerOf(int card) throws IndexOutOfBoundsException {
    return cardAt(card).owner;
  }

  public int ownerByPostings(int card) throws IndexOutOfBoundsException {
    return ledger.lastHolder(cardAt(card).number);
  }

  public char stateOf(int card) throws IndexOutOfBoundsException {
    return cardAt(card).state;
  }

  public int cardsOf(int player) throws IndexOutOfBoundsException {
    needPlayer(player);
    int count = 0;
    for (int i = 0; i < cards.size(); i++) {
      if (cards.get(i).owner == player) {
        count++;
      }
    }
    return count;
  }

  public int coinsOf(int player) throws IndexOutOfBoundsException {
    needPlayer(player);
    return coins[player];
  }

  public int postings() {
    return ledger.count;
  }

  public int posting(int index, char what)
      throws IndexOutOfBoundsException, IllegalArgumentException {
    if (index < 0 || index >= ledger.count) {
      throw new IndexOutOfBoundsException("no such posting");
    }
    if (what == 'c') {
      return ledger.cardIn(index);
    }
    if (what == 'f') {
      return ledger.giverIn(index);
    }
    if (what == 't') {
      return ledger.takerIn(index);
    }
    throw new IllegalArgumentException("no such thing in a posting");
  }

  // ---- duels

  public int duel(int first, int second)
      throws IndexOutOfBoundsException, IllegalArgumentException, IllegalStateException {
    needPlayer(first);
    needPlayer(second);
    if (first == second) {
      throw new IllegalArgumentException("a duel has two players");
    }
    if (isBusy(first, null) || isBusy(second, null)) {
      throw new IllegalStateException("a player is in a duel that has not ended");
    }
    if (duels.size() >= MAX_DUELS) {
      throw new IllegalStateException("there are 8 duels");
    }
    duels.add(new Duel(first, second));
    return duels.size() - 1;
  }

  public int stake(int duel, int card)
      throws IndexOutOfBoundsException, UnsupportedOperationException, IllegalStateException {
    Duel d = duelAt(duel);
    Card c = cardAt(card);
    if (d.state != OPEN || !d.isOf(c.owner)) {
      throw new UnsupportedOperationException("not open, or not a duel of the card's owner");
    }
    Side side = d.sideOf(c.owner);
    if (c.state != FREE || c.offered || side.staked.size() >= MAX_STAKED) {
      throw new IllegalStateException("the card is not free, is offered, or is one too many");
    }
    side.staked.add(c);
    c.state = STAKED;
    c.duel = duel;
    return side.staked.size();
  }

  public int start(int duel)
      throws IndexOutOfBoundsException, UnsupportedOperationException, IllegalStateException {
    Duel d = duelAt(duel);
    if (d.state != OPEN) {
      throw new UnsupportedOperationException("the duel is not open");
    }
    if (d.first.staked.isEmpty() || d.second.staked.isEmpty()) {
      throw new IllegalStateException("a player staked no card");
    }
    d.state = GOING;
    d.mana = 1;
    return d.countStaked();
  }

  public int play(int duel, int card)
      throws IndexOutOfBoundsException, UnsupportedOperationException, IllegalStateException {
    Duel d = duelAt(duel);
    Card c = cardAt(card);
    if (d.state != GOING) {
      throw new UnsupportedOperationException("the duel does not go on");
    }
    int place = d.sideOnTurn().placeOfUnplayed(c);
    if (place < 0) {
      throw new UnsupportedOperationException("not a card that this player can play here");
    }
    if (d.mana < c.cost()) {
      throw new IllegalStateException("too little mana");
    }
    d.putOnStack(c, place);
    return d.mana;
  }

  public char endTurn(int duel) throws IndexOutOfBoundsException, UnsupportedOperationException {
    Duel d = duelAt(duel);
    if (d.state != GOING) {
      throw new UnsupportedOperationException("the duel does not go on");
    }
    d.doStack();
    if (d.state == GOING) {
      d.passTurn();
    }
    if (d.state == ENDED) {
      awardCards(d.first, d.winner);
      awardCards(d.second, d.winner);
    }
    return d.state;
  }

  public char duelState(int duel) throws IndexOutOfBoundsException {
    return duelAt(duel).state;
  }

  public int life(int duel, boolean ofSecond) throws IndexOutOfBoundsException {
    Duel d = duelAt(duel);
    return ofSecond ? d.second.life : d.first.life;
  }

  public int mana(int duel) throws IndexOutOfBoundsException, UnsupportedOperationException {
    Duel d = duelAt(duel);
    if (d.state != GOING) {
      throw new UnsupportedOperationException("the duel does not go on");
    }
    return d.mana;
  }

  public int depth(int duel) throws IndexOutOfBoundsException {
    return duelAt(duel).depth;
  }

  public int winner(int duel) throws IndexOutOfBoundsException, NoSuchElementException {
    Duel d = duelAt(duel);
    if (d.hasNotEnded()) {
      throw new NoSuchElementException("the duel has not ended");
    }
    return d.winner;
  }

  public int close(int duel) throws IndexOutOfBoundsException, UnsupportedOperationException {
    Duel d = duelAt(duel);
    if (d.state != ENDED) {
      throw new UnsupportedOperationException("the duel has not ended, or is final");
    }
    d.state = FINAL;
    freeCards(d.first);
    freeCards(d.second);
    payOutSales(duel);
    return d.countStaked();
  }

  // ---- snapshots and market

  public int snapshot(int duel)
      throws IndexOutOfBoundsException, UnsupportedOperationException, IllegalStateException {
    Duel d = duelAt(duel);
    if (d.state != GOING) {
      throw new UnsupportedOperationException("the duel does not go on");
    }
    if (d.snapshotCount >= MAX_SNAPSHOTS) {
      throw new IllegalStateException("the duel has 6 snapshots");
    }
    d.writeState(numbers);
    d.keep(numbers, store);
    return d.snapshotCount - 1;
  }

  public int inSnapshot(int duel, int snapshot, int place) throws IndexOutOfBoundsException {
    Duel d = duelAt(duel);
    if (snapshot < 0 || snapshot >= d.snapshotCount || place < 0 || place >= NUMBERS) {
      throw new IndexOutOfBoundsException("no such snapshot or place");
    }
    return d.keptNumber(snapshot, place, store);
  }

  public int blocks() {
    return store.countKept();
  }

  public int rollBack(int duel, int snapshot)
      throws IndexOutOfBoundsException, UnsupportedOperationException, IllegalStateException {
    Duel d = duelAt(duel);
    if (snapshot < 0 || snapshot >= d.snapshotCount) {
      throw new IndexOutOfBoundsException("no such snapshot");
    }
    if (d.state != GOING && d.state != ENDED) {
      throw new UnsupportedOperationException("the duel is open or final");
    }
    if (isBusy(d.first.player, d) || isBusy(d.second.player, d)) {
      throw new IllegalStateException("a player is in another duel that has not ended");
    }
    int undone = 0;
    if (d.state == ENDED) {
      undone = undoSales(duel);
      dropOffers(duel);
      takeCardsBack(d.first);
      takeCardsBack(d.second);
    }
    d.forgetLaterThan(snapshot, store);
    for (int place = 0; place < NUMBERS; place++) {
      numbers[place] = d.keptNumber(snapshot, place, store);
    }
    d.resume(snapshot, numbers);
    return undone;
  }

  public int offer(int card, int price)
      throws IndexOutOfBoundsException, IllegalArgumentException, IllegalStateException {
    Card c = cardAt(card);
    if (price < 1 || price > MAX_PRICE) {
      throw new IllegalArgumentException("price out of range");
    }
    if (c.state == STAKED || c.offered || offers.size() >= MAX_OFFERS) {
      throw new IllegalStateException("the card is staked or offered, or there are 60 offers");
    }
    offers.add(new Offer(c, price));
    c.offered = true;
    return offers.size() - 1;
  }

  public int withdraw(int offer) throws IndexOutOfBoundsException, UnsupportedOperationException {
    Offer o = offerAt(offer);
    if (o.state != OPEN) {
      throw new UnsupportedOperationException("the offer is not open");
    }
    o.state = GONE;
    o.card.offered = false;
    return o.card.number;
  }

  public int buy(int player, int offer)
      throws IndexOutOfBoundsException, UnsupportedOperationException, IllegalStateException {
    needPlayer(player);
    Offer o = offerAt(offer);
    if (o.state != OPEN || o.card.owner == player) {
      throw new UnsupportedOperationException("the offer is not open, or the card is the buyer's");
    }
    if (coins[player] < o.price) {
      throw new IllegalStateException("too few coins");
    }
    sell(o, player);
    return o.card.number;
  }

  public char offerState(int offer) throws IndexOutOfBoundsException {
    return offerAt(offer).state;
  }

  public int house() {
    return houseCoins;
  }

  public long apart() {
    return coinsApart;
  }

  public int wonBits() throws ArithmeticException {
    if (cards.isEmpty()) {
      throw new ArithmeticException("there are no cards");
    }
    int won = 0;
    for (int i = 0; i < cards.size(); i++) {
      if (cards.get(i).state == WON) {
        won++;
      }
    }
    return bitsOfShare((float) won / (float) cards.size());
  }

  public double meanPrice() throws ArithmeticException {
    int sum = 0;
    int count = 0;
    for (int i = 0; i < offers.size(); i++) {
      Offer o = offers.get(i);
      if (o.state == BOUGHT) {
        sum += o.price;
        count++;
      }
    }
    if (count == 0) {
      throw new ArithmeticException("nothing was bought");
    }
    return (double) sum / (double) count;
  }

  public boolean isSound() {
    for (int i = 0; i < cards.size(); i++) {
      Card c = cards.get(i);
      if (ledger.lastHolder(c.number) != c.owner) {
        return false;
      }
    }
    int sum = houseCoins + coinsApart;
    for (int i = 0; i < playerCount; i++) {
      sum += coins[i];
    }
    return sum == coinsBegunWith;
  }

  // ---- looking things up

  private void needPlayer(int player) {
    if (player < 0 || player >= playerCount) {
      throw new IndexOutOfBoundsException("no such player");
    }
  }

  private Card cardAt(int card) {
    if (card < 0 || card >= cards.size()) {
      throw new IndexOutOfBoundsException("no such card");
    }
    return cards.get(card);
  }

  private Duel duelAt(int duel) {
    if (duel < 0 || duel >= duels.size()) {
      throw new IndexOutOfBoundsException("no such duel");
    }
    return duels.get(duel);
  }

  private Offer offerAt(int offer) {
    if (offer < 0 || offer >= offers.size()) {
      throw new IndexOutOfBoundsException("no such offer");
    }
    return offers.get(offer);
  }

  /** Tells whether a player is in a duel that has not ended, besides the one left out. */
  private boolean isBusy(int player, Duel leftOut) {
    for (int i = 0; i < duels.size(); i++) {
      Duel d = duels.get(i);
      if (d != leftOut && d.hasNotEnded() && d.isOf(player)) {
        return true;
      }
    }
    return false;
  }

  // ---- cards that change hands

  private void hand(Card card, int taker) {
    if (card.owner != taker) {
      ledger.enter(card.number, card.owner, taker);
      card.owner = taker;
    }
  }

  private void awardCards(Side side, int winner) {
    for (int i = 0; i < side.staked.size(); i++) {
      Card c = side.staked.get(i);
      c.state = WON;
      if (winner != NOBODY) {
        hand(c, winner);
      }
    }
  }

  private void takeCardsBack(Side side) {
    for (int i = 0; i < side.staked.size(); i++) {
      Card c = side.staked.get(i);
      c.state = STAKED;
      hand(c, side.player);
    }
  }

  private void freeCards(Side side) {
    for (int i = 0; i < side.staked.size(); i++) {
      Card c = side.staked.get(i);
      c.state = FREE;
      c.duel = NOBODY;
    }
  }

  // ---- money

  private void addCoins(int player, int sum) {
    if (player >= 0 && player < coins.length) {
      coins[player] += sum;
    }
  }

  private void paySeller(Offer offer) {
    int fee = (offer.price + 9) / 10;
    houseCoins += fee;
    addCoins(offer.seller, offer.price - fee);
  }

  private void sell(Offer offer, int buyer) {
    addCoins(buyer, -offer.price);
    offer.state = BOUGHT;
    offer.buyer = buyer;
    offer.card.offered = false;
    if (offer.card.state == WON) {
      offer.duelToWaitFor = offer.card.duel;
      coinsApart += offer.price;
    } else {
      paySeller(offer);
    }
    hand(offer.card, buyer);
    sales.add(offer);
  }

  private void payOutSales(int duel) {
    for (int i = 0; i < sales.size(); i++) {
      Offer o = sales.get(i);
      if (o.duelToWaitFor == duel) {
        o.duelToWaitFor = NOBODY;
        coinsApart -= o.price;
        paySeller(o);
      }
    }
  }

  private int undoSales(int duel) {
    int undone = 0;
    for (int i = sales.size() - 1; i >= 0; i--) {
      Offer o = sales.get(i);
      if (o.duelToWaitFor == duel) {
        o.duelToWaitFor = NOBODY;
        o.state = GONE;
        coinsApart -= o.price;
        addCoins(o.buyer, o.price);
        hand(o.card, o.seller);
        undone++;
      }
    }
    return undone;
  }

  private void dropOffers(int duel) {
    for (int i = 0; i < offers.size(); i++) {
      Offer o = offers.get(i);
      if (o.state == OPEN && o.card.duel == duel) {
        o.state = GONE;
        o.card.offered = false;
      }
    }
  }

  /** The bits of a share of 0 to 1 by hand, as the language's rules leave Float's functions out. */
  private static int bitsOfShare(float share) {
    if (share <= 0.0f) {
      return 0;
    }
    float scaled = share;
    int exponent = 127;
    // A share of 40 cards is at least 1/40, so 6 doublings are enough.
    for (int i = 0; i < 6 && scaled < 1.0f; i++) {
      scaled = scaled * 2.0f;
      exponent--;
    }
    int fraction = (int) ((scaled - 1.0f) * 8388608.0f);
    return (exponent << 23) | fraction;
  }

  private static final class Card {
    final int number;
    final int kind;
    int owner;
    char state = FREE;
    boolean offered;
    /** The duel in which it is staked or won. */
    int duel = NOBODY;

    Card(int number, int kind, int owner) {
      this.number = number;
      this.kind = kind;
      this.owner = owner;
    }

    int effect() {
      return kind % 4;
    }

    int power() {
      return kind / 4 + 1;
    }

    int cost() {
      return kind % 3;
    }
  }

  private static final class Offer {
    final Card card;
    final int price;
    final int seller;
    int buyer = NOBODY;
    char state = OPEN;
    /** The duel that must be final before the price, kept apart till then, is paid out. */
    int duelToWaitFor = NOBODY;

    Offer(Card card, int price) {
      this.card = card;
      this.price = price;
      this.seller = card.owner;
    }
  }

  /** All postings, each as three numbers: the card, from whom, to whom. */
  private static final class Ledger {
    /** 512 calls make at most 8 postings each, and one more for each of 60 sales undone. */
    private static final int MAX_POSTINGS = 4608;

    private int[] rows = new int[3 * 72];
    int count;

    void enter(int card, int giver, int taker) {
      if (count >= MAX_POSTINGS) {
        return;
      }
      if (3 * count + 3 > rows.length) {
        rows = Arrays.copyOf(rows, 2 * rows.length);
      }
      rows[3 * count] = card;
      rows[3 * count + 1] = giver;
      rows[3 * count + 2] = taker;
      count++;
    }

    int cardIn(int posting) {
      return numberAt(3 * posting);
    }

    int giverIn(int posting) {
      return numberAt(3 * posting + 1);
    }

    int takerIn(int posting) {
      return numberAt(3 * posting + 2);
    }

    private int numberAt(int place) {
      return place >= 0 && place < rows.length ? rows[place] : NOBODY;
    }

    int lastHolder(int card) {
      for (int i = count - 1; i >= 0; i--) {
        if (cardIn(i) == card) {
          return takerIn(i);
        }
      }
      return NOBODY;
    }
  }

  /** The blocks of all snapshots: like blocks are kept once, with the number of their uses. */
  private static final class BlockStore {
    private static final int ROOM = MAX_DUELS * MAX_SNAPSHOTS * BLOCKS_OF_SNAPSHOT;

    private final int[] kept = new int[ROOM * BLOCK_LENGTH];
    private final int[] uses = new int[ROOM];

    /** Keeps the block that begins at a place of the numbers, and returns where. */
    int keepBlock(int[] numbers, int from) {
      if (from < 0 || from + BLOCK_LENGTH > numbers.length) {
        return 0;
      }
      int free = 0;
      for (int block = 0; block < ROOM; block++) {
        if (uses[block] == 0) {
          free = block;
        } else if (isAs(block, numbers, from)) {
          uses[block]++;
          return block;
        }
      }
      System.arraycopy(numbers, from, kept, free * BLOCK_LENGTH, BLOCK_LENGTH);
      uses[free] = 1;
      return free;
    }

    void dropBlock(int block) {
      if (block >= 0 && block < ROOM && uses[block] > 0) {
        uses[block]--;
      }
    }

    int numberIn(int block, int place) {
      int at = block * BLOCK_LENGTH + place;
      return at >= 0 && at < kept.length ? kept[at] : 0;
    }

    int countKept() {
      int count = 0;
      for (int block = 0; block < ROOM; block++) {
        if (uses[block] > 0) {
          count++;
        }
      }
      return count;
    }

    private boolean isAs(int block, int[] numbers, int from) {
      for (int i = 0; i < BLOCK_LENGTH; i++) {
        if (kept[block * BLOCK_LENGTH + i] != numbers[from + i]) {
          return false;
        }
      }
      return true;
    }
  }

  /** One player of a duel, with what this player staked. */
  private static final class Side {
    private static final int LIFE_AT_FIRST = 10;

    final int player;
    int life = LIFE_AT_FIRST;
    final ArrayList<Card> staked = new ArrayList<Card>();
    /** 1 for each staked card that was played, as snapshots tell it. */
    final int[] played = new int[MAX_STAKED];

    Side(int player) {
      this.player = player;
    }

    int placeOfUnplayed(Card card) {
      for (int i = 0; i < staked.size() && i < played.length; i++) {
        if (staked.get(i) == card && played[i] == 0) {
          return i;
        }
      }
      return -1;
    }

    boolean hasPlayedAll() {
      for (int i = 0; i < staked.size() && i < played.length; i++) {
        if (played[i] == 0) {
          return false;
        }
      }
      return true;
    }
  }

  private static final class Duel {
    private static final int HURT = 0;
    private static final int HEAL = 1;
    private static final int TAKE_AWAY = 2;
    private static final int MAX_LIFE = 20;
    private static final int MAX_MANA = 6;

    private static final int PLAYED_AT = 4;
    private static final int DEPTH_AT = 20;
    private static final int TOP_AT = 21;

    final Side first;
    final Side second;
    char state = OPEN;
    int winner = NOBODY;
    int mana;
    private int turns;
    /** Each effect as snapshots tell it: 100 times the player, 10 times the effect, the power. */
    private final int[] stack = new int[MAX_STAKED];
    int depth;
    int snapshotCount;
    private final int[][] keptBlocks = new int[MAX_SNAPSHOTS][BLOCKS_OF_SNAPSHOT];
    private final int[][] keptStacks = new int[MAX_SNAPSHOTS][MAX_STAKED];

    Duel(int first, int second) {
      this.first = new Side(first);
      this.second = new Side(second);
    }

    boolean hasNotEnded() {
      return state == OPEN || state == GOING;
    }

    boolean isOf(int player) {
      return first.player == player || second.player == player;
    }

    Side sideOf(int player) {
      return first.player == player ? first : second;
    }

    int countStaked() {
      return first.staked.size() + second.staked.size();
    }

    /** 0 for the first player, 1 for the second one. */
    private int numberOnTurn() {
      return turns & 1;
    }

    Side sideOnTurn() {
      return numberOnTurn() == 0 ? first : second;
    }

    void putOnStack(Card card, int place) {
      Side side = sideOnTurn();
      if (place < 0 || place >= side.played.length || depth < 0 || depth >= stack.length) {
        return;
      }
      side.played[place] = 1;
      mana -= card.cost();
      stack[depth] = 100 * numberOnTurn() + 10 * card.effect() + card.power();
      depth++;
    }

    void doStack() {
      int added = 0;
      while (depth > 0 && depth <= stack.length) {
        depth--;
        int player = stack[depth] / 100;
        int effect = stack[depth] / 10 % 10;
        int power = stack[depth] % 10 + added;
        added = 0;
        if (effect == HURT) {
          hurtOtherOf(player, power);
        } else if (effect == HEAL) {
          healOwn(player, power);
        } else if (effect == TAKE_AWAY) {
          depth = Math.max(0, depth - 1);
        } else {
          added = power;
        }
      }
    }

    private void hurtOtherOf(int player, int power) {
      Side hurt = player == 0 ? second : first;
      Side other = player == 0 ? first : second;
      hurt.life -= power;
      if (hurt.life <= 0) {
        depth = 0;
        end(other.player);
      }
    }

    private void healOwn(int player, int power) {
      Side healed = player == 0 ? first : second;
      healed.life = Math.min(MAX_LIFE, healed.life + power);
    }

    private void end(int winner) {
      state = ENDED;
      this.winner = winner;
    }

    void passTurn() {
      turns++;
      mana = Math.min(MAX_MANA, 1 + turns / 2);
      if (first.hasPlayedAll() && second.hasPlayedAll()) {
        end(playerWithMoreLife());
      }
    }

    private int playerWithMoreLife() {
      if (first.life == second.life) {
        return NOBODY;
      }
      return first.life > second.life ? first.player : second.player;
    }

    void writeState(int[] numbers) {
      if (numbers.length < NUMBERS) {
        return;
      }
      numbers[0] = first.life;
      numbers[1] = second.life;
      numbers[2] = mana;
      numbers[3] = turns;
      System.arraycopy(first.played, 0, numbers, PLAYED_AT, MAX_STAKED);
      System.arraycopy(second.played, 0, numbers, PLAYED_AT + MAX_STAKED, MAX_STAKED);
      numbers[DEPTH_AT] = depth;
      for (int i = 0; i < NUMBERS - TOP_AT; i++) {
        int at = depth - 1 - i;
        numbers[TOP_AT + i] = at >= 0 && at < stack.length ? stack[at] : -1;
      }
    }

    /** Goes on as the numbers and the stack kept with a snapshot tell. */
    void resume(int snapshot, int[] numbers) {
      if (snapshot < 0 || snapshot >= MAX_SNAPSHOTS || numbers.length < NUMBERS) {
        return;
      }
      first.life = numbers[0];
      second.life = numbers[1];
      mana = numbers[2];
      turns = numbers[3];
      System.arraycopy(numbers, PLAYED_AT, first.played, 0, MAX_STAKED);
      System.arraycopy(numbers, PLAYED_AT + MAX_STAKED, second.played, 0, MAX_STAKED);
      depth = numbers[DEPTH_AT];
      System.arraycopy(keptStacks[snapshot], 0, stack, 0, MAX_STAKED);
      state = GOING;
      winner = NOBODY;
    }

    void keep(int[] numbers, BlockStore store) {
      if (snapshotCount >= MAX_SNAPSHOTS || numbers.length < NUMBERS) {
        return;
      }
      for (int i = 0; i < BLOCKS_OF_SNAPSHOT; i++) {
        keptBlocks[snapshotCount][i] = store.keepBlock(numbers, i * BLOCK_LENGTH);
      }
      System.arraycopy(stack, 0, keptStacks[snapshotCount], 0, MAX_STAKED);
      snapshotCount++;
    }

    int keptNumber(int snapshot, int place, BlockStore store) {
      if (snapshot < 0 || snapshot >= MAX_SNAPSHOTS || place < 0 || place >= NUMBERS) {
        return 0;
      }
      int block = keptBlocks[snapshot][place / BLOCK_LENGTH];
      return store.numberIn(block, place % BLOCK_LENGTH);
    }

    void forgetLaterThan(int snapshot, BlockStore store) {
      if (snapshot < 0 || snapshot >= snapshotCount) {
        return;
      }
      for (int later = snapshot + 1; later < snapshotCount; later++) {
        for (int i = 0; i < BLOCKS_OF_SNAPSHOT; i++) {
          store.dropBlock(keptBlocks[later][i]);
        }
      }
      snapshotCount = snapshot + 1;
    }
  }
}
