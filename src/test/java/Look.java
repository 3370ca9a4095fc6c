/** Everything that an arena answers without being changed, as one text. */
final class Look {
  private Look() {}

  static String at(SnapshotArena x) {
    StringBuilder text = new StringBuilder();
    for (int p = 0; p < 7; p++) {
      int player = p;
      text.append("\nplayer ").append(p);
      put(text, () -> x.cardsOf(player));
      put(text, () -> x.coinsOf(player));
    }
    for (int c = 0; c < 41; c++) {
      int card = c;
      text.append("\ncard ").append(c);
      put(text, () -> x.ownerOf(card));
      put(text, () -> x.ownerByPostings(card));
      put(text, () -> x.stateOf(card));
    }
    text.append("\npostings");
    put(text, x::postings);
    for (int i = 0; i < x.postings(); i++) {
      int index = i;
      put(text, () -> x.posting(index, 'c'));
      put(text, () -> x.posting(index, 'f'));
      put(text, () -> x.posting(index, 't'));
    }
    for (int d = 0; d < 9; d++) {
      duel(text, x, d);
    }
    text.append("\noffers");
    for (int o = 0; o < 61; o++) {
      int offer = o;
      put(text, () -> x.offerState(offer));
    }
    text.append("\nall");
    put(text, x::blocks);
    put(text, x::house);
    put(text, x::apart);
    put(text, x::wonBits);
    put(text, x::meanPrice);
    put(text, x::isSound);
    return text.toString();
  }

  private static void duel(StringBuilder text, SnapshotArena x, int d) {
    text.append("\nduel ").append(d);
    put(text, () -> x.duelState(d));
    put(text, () -> x.life(d, false));
    put(text, () -> x.life(d, true));
    put(text, () -> x.mana(d));
    put(text, () -> x.depth(d));
    put(text, () -> x.winner(d));
    for (int s = 0; s < 7; s++) {
      text.append("\nduel ").append(d).append(" snapshot ").append(s);
      for (int place = 0; place < 25; place++) {
        int snapshot = s;
        int number = place;
        put(text, () -> x.inSnapshot(d, snapshot, number));
      }
    }
  }

  interface Question {
    Object ask();
  }

  private static void put(StringBuilder text, Question question) {
    text.append(' ');
    try {
      text.append(question.ask());
    } catch (RuntimeException e) {
      String name = Check.nameOf(e);
      text.append(name.substring(name.lastIndexOf('.') + 1).substring(0, 3));
      if (name.startsWith("the machine")) {
        Check.complain("a question threw " + name);
      }
    }
  }
}
