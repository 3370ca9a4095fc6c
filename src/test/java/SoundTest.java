import java.lang.reflect.Field;
import java.util.List;

/**
 * Promise 34, where what it checks does not hold. No run of calls can bring this about, so that
 * owners and coins are falsified here from outside, in the object's own fields.
 */
public final class SoundTest extends Scene {
  public static void main(String[] args) throws ReflectiveOperationException {
    owners();
    coins();
    house();
    apart();
    coinsThatMakeUpForEachOther();
    Check.finish("SoundTest");
  }

  /** A duel that ended, one of its cards sold; its price is apart, a fee is the house's. */
  private static SnapshotArena traded() {
    SnapshotArena x = wonByFirst();
    sell(x, 3, 40, 2);
    sell(x, x.make(1, 0), 10, 2);
    Check.same("the house", x.house(), 1);
    Check.same("apart", x.apart(), 40);
    Check.holds("sound as it is", x.isSound());
    return x;
  }

  private static void owners() throws ReflectiveOperationException {
    for (int card = 0; card < 6; card++) {
      SnapshotArena x = traded();
      Object held = ((List<?>) fieldOf(x, "cards").get(x)).get(card);
      Field owner = fieldOf(held, "owner");
      int right = x.ownerOf(card);
      for (int wrong = -1; wrong < 4; wrong++) {
        owner.setInt(held, wrong);
        Check.holds("owner " + wrong + " of card " + card, x.isSound() == (wrong == right));
      }
    }
  }

  private static void coins() throws ReflectiveOperationException {
    for (int player = 0; player < 3; player++) {
      SnapshotArena x = traded();
      int[] coins = (int[]) fieldOf(x, "coins").get(x);
      coins[player]++;
      Check.holds("a coin more of player " + player, !x.isSound());
      coins[player] -= 2;
      Check.holds("a coin less of player " + player, !x.isSound());
      coins[player]++;
      Check.holds("the coins of player " + player, x.isSound());
    }
  }

  private static void house() throws ReflectiveOperationException {
    addsUpOnlyAsItIs("houseCoins");
  }

  private static void apart() throws ReflectiveOperationException {
    addsUpOnlyAsItIs("coinsApart");
  }

  private static void addsUpOnlyAsItIs(String name) throws ReflectiveOperationException {
    SnapshotArena x = traded();
    Field field = fieldOf(x, name);
    int right = field.getInt(x);
    for (int wrong : new int[] {right + 1, right - 1, 0, -right}) {
      field.setInt(x, wrong);
      Check.holds(name + " of " + wrong, !x.isSound());
    }
    field.setInt(x, right);
    Check.holds(name + " as it was", x.isSound());
  }

  /** Only the sum of all coins is checked, and not who has them. */
  private static void coinsThatMakeUpForEachOther() throws ReflectiveOperationException {
    SnapshotArena x = traded();
    int[] coins = (int[]) fieldOf(x, "coins").get(x);
    coins[0] -= 5;
    Check.holds("coins lost", !x.isSound());
    fieldOf(x, "houseCoins").setInt(x, x.house() + 2);
    Check.holds("coins lost in part", !x.isSound());
    fieldOf(x, "coinsApart").setInt(x, (int) x.apart() + 3);
    Check.holds("coins elsewhere", x.isSound());
  }

  private static Field fieldOf(Object object, String name) throws ReflectiveOperationException {
    Field field = object.getClass().getDeclaredField(name);
    field.setAccessible(true);
    return field;
  }
}
