import java.util.Random;

/** Random runs of 512 calls: the class and the plain model must answer each call alike. */
public final class ModelTest {
  private static final int RUNS = 1200;
  private static final int CALLS = 512;

  private static int endings = 0;
  private static int draws = 0;
  private static int endingsRolledBack = 0;
  private static int salesUndone = 0;
  private static int closings = 0;
  private static int mostPostings = 0;

  private final Random random;
  private final SnapshotArena x = new SnapshotArena();
  private final PlainArena model = new PlainArena();
  private final int mostPlayers;
  private final int mostCards;
  private final boolean hasOftenRollbacks;

  private ModelTest(int seed) {
    random = new Random(seed);
    mostPlayers = 2 + random.nextInt(6);
    mostCards = 2 + random.nextInt(41);
    hasOftenRollbacks = random.nextInt(4) > 0;
  }

  public static void main(String[] args) {
    for (int seed = 0; seed < RUNS; seed++) {
      new ModelTest(seed).run(seed);
    }
    longestLedger();
    System.out.println("endings " + endings + ", draws " + draws + ", rolled back "
        + endingsRolledBack + ", sales undone " + salesUndone + ", closed " + closings
        + ", most postings " + mostPostings);
    Check.holds("the runs go deep", endings > 1000 && draws > 50 && endingsRolledBack > 500
        && salesUndone > 500 && closings > 300 && mostPostings > 90);
    Check.finish("ModelTest");
  }

  private void run(int seed) {
    for (int call = 0; call < CALLS; call++) {
      String what = "seed " + seed + " call " + call;
      step(what);
      if (call % 64 == 63) {
        compareAll(what);
      }
    }
    salesUndone += model.salesUndone;
    mostPostings = Math.max(mostPostings, model.postings());
  }

  /** Each turn is played and rolled back, so that every second call moves eight cards. */
  private static void longestLedger() {
    SnapshotArena x = new SnapshotArena();
    x.player(0);
    x.player(0);
    x.duel(0, 1);
    for (int i = 0; i < 8; i++) {
      x.stake(0, x.make(0, 12));
      x.stake(0, x.make(1, 0));
    }
    x.start(0);
    x.play(0, 0);
    x.play(0, 2);
    x.play(0, 4);
    x.snapshot(0);
    int due = 16;
    for (int calls = 40; calls < CALLS; calls += 2) {
      Check.sameChar("the end, again", x.endTurn(0), 'e');
      due += 8;
      Check.same("postings", x.postings(), due);
      x.rollBack(0, 0);
      due += 8;
      Check.same("postings", x.postings(), due);
      Check.same("the last one", x.posting(due - 1, 'c'), 15);
    }
    Check.holds("sound after all", x.isSound());
  }

  // ---- arguments, mostly such as fit

  private int oneOf(int count) {
    return random.nextInt(40) == 0 ? random.nextInt(5) * 100 - 100 : random.nextInt(count + 1)
        - (random.nextInt(20) == 0 ? 1 : 0);
  }

  private int existing(int count) {
    return count == 0 || random.nextInt(25) == 0 ? oneOf(count) : random.nextInt(count);
  }

  private int aPlayer() {
    return existing(model.purses.size());
  }

  private int aCard() {
    return existing(model.kinds.size());
  }

  /** A won card if there is one among a few. */
  private int aCardToOffer() {
    int card = aCard();
    for (int i = 0; i < 6 && card >= 0 && card < model.kinds.size(); i++) {
      if (model.stateOf(card) == 'w') {
        return card;
      }
      card = aCard();
    }
    return card;
  }

  /** A free card of one of the duel's players if there is one among a few. */
  private int aCardToStake(int duel) {
    int card = aCard();
    for (int i = 0; i < 8 && duel >= 0 && duel < model.fights.size(); i++) {
      if (card >= 0 && card < model.kinds.size() && model.stateOf(card) == '-'
          && model.fights.get(duel).has(model.ownerOf(card))) {
        return card;
      }
      card = aCard();
    }
    return card;
  }

  private int aDuel() {
    return existing(model.fights.size());
  }

  private int anOffer() {
    int size = model.deals.size();
    for (int offer = size - 1; offer >= 0; offer--) {
      if (model.offerState(offer) == 'o' && random.nextInt(3) > 0) {
        return offer;
      }
    }
    return existing(size);
  }

  /** A duel in the given state if there is one. */
  private int aDuelThatIs(char state) {
    for (int f = model.fights.size() - 1; f >= 0; f--) {
      if (model.fights.get(f).state == state && random.nextInt(3) > 0) {
        return f;
      }
    }
    return aDuel();
  }

  // ---- calls

  private void step(String what) {
    int r = random.nextInt(100);
    if (model.purses.size() < 2 || r == 0 && model.purses.size() < mostPlayers) {
      int coins = random.nextInt(9) == 0 ? random.nextInt(1100) - 50 : random.nextInt(300);
      alike(what + " player", () -> x.player(coins), () -> model.player(coins));
    } else if (model.kinds.size() < 2 || r < 8 && model.kinds.size() < mostCards) {
      int kind = random.nextInt(20) == 0 ? oneOf(18) : random.nextInt(16);
      int player = aPlayer();
      alike(what + " make", () -> x.make(player, kind), () -> model.make(player, kind));
    } else if (r < 10 || model.fights.isEmpty()) {
      int first = aPlayer();
      int second = aPlayer();
      alike(what + " duel", () -> x.duel(first, second), () -> model.duel(first, second));
    } else if (r < mostlyDuels()) {
      duelStep(what, random.nextInt(100));
    } else {
      marketStep(what, random.nextInt(100));
    }
  }

  /** Won cards are sold for a while, ahead of a rollback. */
  private int mostlyDuels() {
    for (PlainArena.Fight f : model.fights) {
      if (f.state == 'e') {
        return 45;
      }
    }
    return 85;
  }

  private void duelStep(String what, int r) {
    if (r < 12) {
      int duel = aDuelThatIs('o');
      int card = aCardToStake(duel);
      alike(what + " stake", () -> x.stake(duel, card), () -> model.stake(duel, card));
    } else if (r < 20) {
      int duel = aDuelThatIs('o');
      alike(what + " start", () -> x.start(duel), () -> model.start(duel));
    } else if (r < 62) {
      play(what);
    } else if (r < 78) {
      endTurn(what);
    } else if (r < 84) {
      int duel = aDuelThatIs('g');
      alike(what + " snapshot", () -> x.snapshot(duel), () -> model.snapshot(duel));
    } else if (r < 97 && (hasOftenRollbacks || r < 88)) {
      rollBack(what);
    } else if (r == 99 || r > 96 && !hasOftenRollbacks) {
      int duel = aDuelThatIs('e');
      closings += alike(what + " close", () -> x.close(duel), () -> model.close(duel)) ? 1 : 0;
    } else {
      play(what);
    }
  }

  private void play(String what) {
    int duel = aDuelThatIs('g');
    int card = aCard();
    if (duel >= 0 && duel < model.fights.size() && random.nextInt(10) > 0) {
      PlainArena.Fight f = model.fights.get(duel);
      java.util.List<Integer> own = f.staked.get(f.now.turns % 2);
      card = own.isEmpty() ? card : own.get(random.nextInt(own.size()));
    }
    int played = card;
    alike(what + " play", () -> x.play(duel, played), () -> model.play(duel, played));
  }

  private void endTurn(String what) {
    int duel = aDuelThatIs('g');
    boolean answered = alike(what + " endTurn", () -> x.endTurn(duel), () -> model.endTurn(duel));
    if (answered && model.duelState(duel) == 'e') {
      endings++;
      draws += model.winner(duel) < 0 ? 1 : 0;
    }
  }

  private void rollBack(String what) {
    int duel = aDuelThatIs(random.nextInt(3) > 0 ? 'e' : 'g');
    int kept = duel >= 0 && duel < model.fights.size() ? model.fights.get(duel).snapshots.size() : 0;
    int snapshot = existing(kept);
    boolean ended = duel >= 0 && duel < model.fights.size() && model.duelState(duel) == 'e';
    boolean answered = alike(what + " rollBack", () -> x.rollBack(duel, snapshot),
        () -> model.rollBack(duel, snapshot));
    endingsRolledBack += ended && answered ? 1 : 0;
  }

  private void marketStep(String what, int r) {
    if (r < 35) {
      int card = aCardToOffer();
      int price = random.nextInt(15) == 0 ? oneOf(1000) : 1 + random.nextInt(40);
      alike(what + " offer", () -> x.offer(card, price), () -> model.offer(card, price));
    } else if (r < 42) {
      int offer = anOffer();
      alike(what + " withdraw", () -> x.withdraw(offer), () -> model.withdraw(offer));
    } else if (r < 80) {
      int player = aPlayer();
      int offer = anOffer();
      alike(what + " buy", () -> x.buy(player, offer), () -> model.buy(player, offer));
    } else {
      ask(what);
    }
  }

  private void ask(String what) {
    alike(what + " blocks", () -> x.blocks(), () -> model.blocks());
    alike(what + " house", () -> x.house(), () -> model.house());
    alike(what + " apart", () -> x.apart(), () -> model.apart());
    alike(what + " wonBits", () -> x.wonBits(), () -> model.wonBits());
    alike(what + " meanPrice", () -> x.meanPrice(), () -> model.meanPrice());
    alike(what + " isSound", () -> x.isSound(), () -> true);
    alike(what + " postings", () -> x.postings(), () -> model.postings());
    int any = oneOf(70);
    alike(what + " offerState", () -> x.offerState(any), () -> model.offerState(any));
    alike(what + " posting", () -> x.posting(any, 't'), () -> model.posting(any, 't'));
  }

  private void compareAll(String what) {
    ask(what);
    for (int p = 0; p < 7; p++) {
      int player = p;
      alike(what + " cardsOf", () -> x.cardsOf(player), () -> model.cardsOf(player));
      alike(what + " coinsOf", () -> x.coinsOf(player), () -> model.coinsOf(player));
    }
    for (int c = 0; c <= model.kinds.size(); c++) {
      int card = c;
      alike(what + " ownerOf", () -> x.ownerOf(card), () -> model.ownerOf(card));
      alike(what + " ownerByPostings", () -> x.ownerByPostings(card), () -> model.ownerOf(card));
      alike(what + " stateOf", () -> x.stateOf(card), () -> model.stateOf(card));
    }
    for (int i = 0; i <= model.posted.size(); i++) {
      int index = i;
      for (char thing : new char[] {'c', 'f', 't', 'o'}) {
        alike(what + " posting", () -> x.posting(index, thing), () -> model.posting(index, thing));
      }
    }
    for (int o = 0; o <= model.deals.size(); o++) {
      int offer = o;
      alike(what + " offerState", () -> x.offerState(offer), () -> model.offerState(offer));
    }
    for (int d = 0; d <= model.fights.size(); d++) {
      compareDuel(what, d);
    }
  }

  private void compareDuel(String what, int d) {
    alike(what + " duelState", () -> x.duelState(d), () -> model.duelState(d));
    alike(what + " life of first", () -> x.life(d, false), () -> model.life(d, false));
    alike(what + " life of second", () -> x.life(d, true), () -> model.life(d, true));
    alike(what + " mana", () -> x.mana(d), () -> model.mana(d));
    alike(what + " depth", () -> x.depth(d), () -> model.depth(d));
    alike(what + " winner", () -> x.winner(d), () -> model.winner(d));
    for (int s = 0; s < 7; s++) {
      for (int p = 0; p < 25; p++) {
        int snapshot = s;
        int place = p;
        alike(what + " inSnapshot", () -> x.inSnapshot(d, snapshot, place),
            () -> model.inSnapshot(d, snapshot, place));
      }
    }
  }

  /** Whether both answered; what they answered, or threw, must be the same. */
  private static boolean alike(String what, Look.Question asked, Look.Question due) {
    Object got;
    Object want;
    boolean answered = true;
    try {
      got = asked.ask();
    } catch (RuntimeException e) {
      got = Check.nameOf(e);
    }
    try {
      want = due.ask();
    } catch (RuntimeException e) {
      want = e.getClass().getName();
      answered = false;
    }
    Check.sameText(what, String.valueOf(got), String.valueOf(want));
    return answered;
  }
}
