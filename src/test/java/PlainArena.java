import java.util.ArrayList;
import java.util.Arrays;
import java.util.HashSet;
import java.util.List;
import java.util.NoSuchElementException;
import java.util.Set;

/**
 * A slow model of the arena. It keeps only what happened and derives the rest each time: owners
 * from postings, coins from sales, blocks from the numbers of all snapshots.
 */
final class PlainArena {
  static final class Fight {
    int[] players;
    char state = 'o';
    int winner = -1;
    List<List<Integer>> staked = List.of(new ArrayList<>(), new ArrayList<>());
    Position now = new Position();
    List<Position> snapshots = new ArrayList<>();

    boolean lasts() {
      return state == 'o' || state == 'g';
    }

    boolean has(int player) {
      return players[0] == player || players[1] == player;
    }

    List<Integer> allStaked() {
      List<Integer> all = new ArrayList<>(staked.get(0));
      all.addAll(staked.get(1));
      return all;
    }
  }

  /** What a snapshot keeps; a copy shares nothing. */
  static final class Position {
    int[] lives = {10, 10};
    int mana = 1;
    int turns = 0;
    Set<Integer> played = new HashSet<>();
    /** Each effect is the player, 0 or 1, and the card; the last one is at the end. */
    List<int[]> stack = new ArrayList<>();

    Position copy() {
      Position p = new Position();
      p.lives = lives.clone();
      p.mana = mana;
      p.turns = turns;
      p.played = new HashSet<>(played);
      p.stack = new ArrayList<>(stack);
      return p;
    }
  }

  static final class Deal {
    int card;
    int price;
    int seller;
    int buyer = -1;
    char state = 'o';
    /** The duel in which the card was won when it was bought; -1 if it was free. */
    int fight = -1;

    int fee() {
      return price / 10 + (price % 10 == 0 ? 0 : 1);
    }
  }

  final List<Integer> purses = new ArrayList<>();
  final List<Integer> kinds = new ArrayList<>();
  final List<int[]> posted = new ArrayList<>();
  final List<Fight> fights = new ArrayList<>();
  final List<Deal> deals = new ArrayList<>();
  final List<Deal> bought = new ArrayList<>();
  int salesUndone = 0;

  private static void index(int number, int count) {
    if (number < 0 || number >= count) {
      throw new IndexOutOfBoundsException();
    }
  }

  private static void argument(boolean right) {
    if (!right) {
      throw new IllegalArgumentException();
    }
  }

  private static void supported(boolean right) {
    if (!right) {
      throw new UnsupportedOperationException();
    }
  }

  private static void state(boolean right) {
    if (!right) {
      throw new IllegalStateException();
    }
  }

  int player(int coins) {
    argument(coins >= 0 && coins <= 999);
    state(purses.size() < 6);
    purses.add(coins);
    return purses.size() - 1;
  }

  int make(int player, int kind) {
    index(player, purses.size());
    argument(kind >= 0 && kind <= 15);
    state(kinds.size() < 40);
    kinds.add(kind);
    posted.add(new int[] {kinds.size() - 1, -1, player});
    return kinds.size() - 1;
  }

  int ownerOf(int card) {
    index(card, kinds.size());
    int owner = -1;
    for (int[] posting : posted) {
      owner = posting[0] == card ? posting[2] : owner;
    }
    return owner;
  }

  /** The last duel in which a card was staked, if it is not final; -1 if there is none. */
  private int fightOf(int card) {
    for (int f = fights.size() - 1; f >= 0; f--) {
      if (fights.get(f).state != 'f' && fights.get(f).allStaked().contains(card)) {
        return f;
      }
    }
    return -1;
  }

  char stateOf(int card) {
    index(card, kinds.size());
    int fight = fightOf(card);
    return fight < 0 ? '-' : fights.get(fight).lasts() ? 's' : 'w';
  }

  int cardsOf(int player) {
    index(player, purses.size());
    int count = 0;
    for (int card = 0; card < kinds.size(); card++) {
      count += ownerOf(card) == player ? 1 : 0;
    }
    return count;
  }

  private boolean isApart(Deal d) {
    return d.state == 'b' && d.fight >= 0 && fights.get(d.fight).state != 'f';
  }

  int coinsOf(int player) {
    index(player, purses.size());
    int sum = purses.get(player);
    for (Deal d : deals) {
      if (d.state == 'b' && d.buyer == player) {
        sum -= d.price;
      }
      if (d.state == 'b' && !isApart(d) && d.seller == player) {
        sum += d.price - d.fee();
      }
    }
    return sum;
  }

  int postings() {
    return posted.size();
  }

  int posting(int index, char what) {
    index(index, posted.size());
    argument("cft".indexOf(what) >= 0);
    return posted.get(index)["cft".indexOf(what)];
  }

  private boolean fightsElsewhere(int player, Fight but) {
    for (Fight f : fights) {
      if (f != but && f.lasts() && f.has(player)) {
        return true;
      }
    }
    return false;
  }

  int duel(int first, int second) {
    index(first, purses.size());
    index(second, purses.size());
    argument(first != second);
    state(!fightsElsewhere(first, null) && !fightsElsewhere(second, null) && fights.size() < 8);
    Fight f = new Fight();
    f.players = new int[] {first, second};
    fights.add(f);
    return fights.size() - 1;
  }

  private boolean isOffered(int card) {
    for (Deal d : deals) {
      if (d.card == card && d.state == 'o') {
        return true;
      }
    }
    return false;
  }

  int stake(int duel, int card) {
    index(duel, fights.size());
    index(card, kinds.size());
    Fight f = fights.get(duel);
    supported(f.state == 'o' && f.has(ownerOf(card)));
    List<Integer> own = f.staked.get(f.players[0] == ownerOf(card) ? 0 : 1);
    state(stateOf(card) == '-' && !isOffered(card) && own.size() < 8);
    own.add(card);
    return own.size();
  }

  int start(int duel) {
    index(duel, fights.size());
    Fight f = fights.get(duel);
    supported(f.state == 'o');
    state(f.staked.get(0).size() > 0 && f.staked.get(1).size() > 0);
    f.state = 'g';
    return f.allStaked().size();
  }

  int play(int duel, int card) {
    index(duel, fights.size());
    index(card, kinds.size());
    Fight f = fights.get(duel);
    supported(f.state == 'g');
    int side = f.now.turns % 2;
    supported(f.staked.get(side).contains(card) && !f.now.played.contains(card));
    state(f.now.mana >= kinds.get(card) % 3);
    f.now.mana -= kinds.get(card) % 3;
    f.now.played.add(card);
    f.now.stack.add(new int[] {side, card});
    return f.now.mana;
  }

  char endTurn(int duel) {
    index(duel, fights.size());
    Fight f = fights.get(duel);
    supported(f.state == 'g');
    int loser = doStack(f.now);
    f.now.stack.clear();
    if (loser >= 0) {
      end(f, f.players[1 - loser]);
      return f.state;
    }
    f.now.turns++;
    f.now.mana = Math.min(6, (2 + f.now.turns) / 2);
    if (f.now.played.containsAll(f.allStaked())) {
      int[] l = f.now.lives;
      end(f, l[0] == l[1] ? -1 : l[0] > l[1] ? f.players[0] : f.players[1]);
    }
    return f.state;
  }

  /** The player, 0 or 1, whose life is gone, or -1. */
  private int doStack(Position p) {
    List<int[]> todo = new ArrayList<>();
    for (int[] effect : p.stack) {
      int kind = kinds.get(effect[1]);
      todo.add(0, new int[] {effect[0], kind & 3, kind / 4 + 1});
    }
    while (!todo.isEmpty()) {
      int[] now = todo.remove(0);
      switch (now[1]) {
        case 0:
          p.lives[1 - now[0]] -= now[2];
          break;
        case 1:
          p.lives[now[0]] = Math.min(20, p.lives[now[0]] + now[2]);
          break;
        case 2:
          if (!todo.isEmpty()) {
            todo.remove(0);
          }
          break;
        default:
          if (!todo.isEmpty()) {
            todo.get(0)[2] += now[2];
          }
      }
      for (int side = 0; side < 2; side++) {
        if (p.lives[side] <= 0) {
          return side;
        }
      }
    }
    return -1;
  }

  private void end(Fight f, int winner) {
    f.state = 'e';
    f.winner = winner;
    for (int card : f.allStaked()) {
      if (winner >= 0) {
        move(card, winner);
      }
    }
  }

  private void move(int card, int taker) {
    int giver = ownerOf(card);
    if (giver != taker) {
      posted.add(new int[] {card, giver, taker});
    }
  }

  char duelState(int duel) {
    index(duel, fights.size());
    return fights.get(duel).state;
  }

  int life(int duel, boolean ofSecond) {
    index(duel, fights.size());
    return fights.get(duel).now.lives[ofSecond ? 1 : 0];
  }

  int mana(int duel) {
    index(duel, fights.size());
    supported(fights.get(duel).state == 'g');
    return fights.get(duel).now.mana;
  }

  int depth(int duel) {
    index(duel, fights.size());
    return fights.get(duel).now.stack.size();
  }

  int winner(int duel) {
    index(duel, fights.size());
    if (fights.get(duel).lasts()) {
      throw new NoSuchElementException();
    }
    return fights.get(duel).winner;
  }

  int close(int duel) {
    index(duel, fights.size());
    Fight f = fights.get(duel);
    supported(f.state == 'e');
    f.state = 'f';
    return f.allStaked().size();
  }

  int snapshot(int duel) {
    index(duel, fights.size());
    Fight f = fights.get(duel);
    supported(f.state == 'g');
    state(f.snapshots.size() < 6);
    f.snapshots.add(f.now.copy());
    return f.snapshots.size() - 1;
  }

  private int number(Fight f, Position p, int place) {
    if (place < 2) {
      return p.lives[place];
    }
    if (place < 4) {
      return place == 2 ? p.mana : p.turns;
    }
    if (place < 20) {
      List<Integer> own = f.staked.get((place - 4) / 8);
      int at = (place - 4) % 8;
      return at < own.size() && p.played.contains(own.get(at)) ? 1 : 0;
    }
    if (place == 20) {
      return p.stack.size();
    }
    int at = p.stack.size() - (place - 20);
    if (at < 0) {
      return -1;
    }
    int kind = kinds.get(p.stack.get(at)[1]);
    return 100 * p.stack.get(at)[0] + 10 * (kind % 4) + kind / 4 + 1;
  }

  int inSnapshot(int duel, int snapshot, int place) {
    index(duel, fights.size());
    index(snapshot, fights.get(duel).snapshots.size());
    index(place, 24);
    return number(fights.get(duel), fights.get(duel).snapshots.get(snapshot), place);
  }

  int blocks() {
    Set<List<Integer>> blocks = new HashSet<>();
    for (Fight f : fights) {
      for (Position p : f.snapshots) {
        for (int b = 0; b < 24; b += 4) {
          blocks.add(Arrays.asList(number(f, p, b), number(f, p, b + 1), number(f, p, b + 2),
              number(f, p, b + 3)));
        }
      }
    }
    return blocks.size();
  }

  int rollBack(int duel, int snapshot) {
    index(duel, fights.size());
    Fight f = fights.get(duel);
    index(snapshot, f.snapshots.size());
    supported(f.state == 'g' || f.state == 'e');
    state(!fightsElsewhere(f.players[0], f) && !fightsElsewhere(f.players[1], f));
    int undone = 0;
    if (f.state == 'e') {
      undone = undo(duel);
      for (int side = 0; side < 2; side++) {
        for (int card : f.staked.get(side)) {
          move(card, f.players[side]);
        }
      }
    }
    f.snapshots.subList(snapshot + 1, f.snapshots.size()).clear();
    f.now = f.snapshots.get(snapshot).copy();
    f.state = 'g';
    return undone;
  }

  private int undo(int duel) {
    int undone = 0;
    for (int i = bought.size() - 1; i >= 0; i--) {
      Deal d = bought.get(i);
      if (d.state == 'b' && d.fight == duel) {
        posted.add(new int[] {d.card, d.buyer, d.seller});
        d.state = 'g';
        undone++;
      }
    }
    for (Deal d : deals) {
      if (d.state == 'o' && fights.get(duel).allStaked().contains(d.card)) {
        d.state = 'g';
      }
    }
    salesUndone += undone;
    return undone;
  }

  int offer(int card, int price) {
    index(card, kinds.size());
    argument(price >= 1 && price <= 999);
    state(stateOf(card) != 's' && !isOffered(card) && deals.size() < 60);
    Deal d = new Deal();
    d.card = card;
    d.price = price;
    d.seller = ownerOf(card);
    deals.add(d);
    return deals.size() - 1;
  }

  int withdraw(int offer) {
    index(offer, deals.size());
    supported(deals.get(offer).state == 'o');
    deals.get(offer).state = 'g';
    return deals.get(offer).card;
  }

  int buy(int player, int offer) {
    index(player, purses.size());
    index(offer, deals.size());
    Deal d = deals.get(offer);
    supported(d.state == 'o' && ownerOf(d.card) != player);
    state(coinsOf(player) >= d.price);
    d.state = 'b';
    d.buyer = player;
    d.fight = fightOf(d.card);
    bought.add(d);
    move(d.card, player);
    return d.card;
  }

  char offerState(int offer) {
    index(offer, deals.size());
    return deals.get(offer).state;
  }

  int house() {
    int sum = 0;
    for (Deal d : deals) {
      sum += d.state == 'b' && !isApart(d) ? d.fee() : 0;
    }
    return sum;
  }

  long apart() {
    long sum = 0;
    for (Deal d : deals) {
      sum += isApart(d) ? d.price : 0;
    }
    return sum;
  }

  int wonBits() {
    if (kinds.isEmpty()) {
      throw new ArithmeticException();
    }
    int won = 0;
    for (int card = 0; card < kinds.size(); card++) {
      won += stateOf(card) == 'w' ? 1 : 0;
    }
    return Float.floatToIntBits((float) won / (float) kinds.size());
  }

  double meanPrice() {
    long sum = 0;
    int count = 0;
    for (Deal d : deals) {
      if (d.state == 'b') {
        sum += d.price;
        count++;
      }
    }
    if (count == 0) {
      throw new ArithmeticException();
    }
    return (double) sum / (double) count;
  }
}
