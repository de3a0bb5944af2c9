/** Promises 30 to 37: pages, their orders, stories, the image and what is told of all. */
final class BoundariesOfPages extends Boundaries {
  private BoundariesOfPages() {}

  private static void pages(BrokenFugue x, int... numbers) {
    for (int number : numbers) {
      x.page(number, 0, 0, 0);
    }
  }

  @Holds(promise = 30, words = "PAGES 0 .. 7: NUMBER (0 .. 99), RULING, INK, SIZE (0 .. 9).")
  static void pagesWithinTheirBounds(BrokenFugue x) {
    for (int bad : beyond(0, 99)) {
      due(NONE, x.page(bad, 0, 0, 0));
    }
    for (int bad : beyond(0, 9)) {
      due(NONE, x.page(0, bad, 0, 0));
      due(NONE, x.page(0, 0, bad, 0));
      due(NONE, x.page(0, 0, 0, bad));
    }
    due(0, x.about(2));
    due(0, x.page(0, 0, 0, 0));
    due(1, x.page(99, 9, 9, 9));
    for (int page = 2; page < 8; page++) {
      due(page, x.page(99, 9, 9, 9));
    }
    due(8, x.about(2));
    // Each sign in its own place.
    BrokenFugue y = new BrokenFugue();
    y.page(99, 1, 2, 3);
    y.page(0, 4, 5, 6);
    read(y, "ahead number=99 and ruling=1 and ink=2 and size=3 and numberb=0 and rulingb=4 and inkb=5 and sizeb=6;");
    due(1, y.orders(0));
    due(1, y.where(0, 0, 0));
    // The last page's last sign, as x's and as y's.
    for (int page = 2; page < 8; page++) {
      y.page(page, page, page, page);
    }
    read(y, "ahead size=7 and sizeb=2;");
    read(y, "ahead size=2 and sizeb=7;");
    due(20160, y.orders(1));
    due(0, y.where(1, 2, 0));
    due(5040, y.where(1, 7, 0));
    due(20160, y.orders(2));
    due(0, y.where(2, 7, 0));
  }

  @Holds(promise = 30, words = "A PAGE: its number. NONE for others, or if there are 8.")
  static void noNinthPage(BrokenFugue x) {
    for (int page = 0; page < 8; page++) {
      due(page, x.page(page, 0, 0, 0));
    }
    due(NONE, x.page(8, 0, 0, 0));
    due(NONE, x.page(100, 0, 0, 0));
    due(8, x.about(2));
    read(x, "ahead number<numberb;");
    due(1, x.orders(0));
    x.back();
    due(0, x.page(8, 0, 0, 0));
  }

  @Holds(promise = 31, words = "ORDERS of all PAGES that a TEXT lets: for each two PAGES x, y (either way round; x's NAMES"
      + " plain, y's with b):")
  static void fromNoneToAllOrders(BrokenFugue x) {
    read(x, "");
    read(x, "ahead number<numberb;");
    read(x, "ahead 1=1;");
    read(x, "beside 1=1;");
    int[] all = {1, 1, 2, 6, 24, 120, 720, 5040, 40320};
    for (int pages = 0; pages <= 8; pages++) {
      due(all[pages], x.orders(0));
      due(1, x.orders(1));
      // Each ahead of each, and each beside each: two at most can lie beside one another.
      due(pages < 2 ? 1 : 0, x.orders(2));
      due(pages < 3 ? all[pages] : 0, x.orders(3));
      x.page(pages, 0, 0, 0);
    }
  }

  @Holds(promise = 31, words = "ORDERS of all PAGES that a TEXT lets: for each two PAGES x, y (either way round; x's NAMES"
      + " plain, y's with b):")
  static void eitherWayRound(BrokenFugue x) {
    pages(x, 3, 7);
    read(x, "ahead number=3 and numberb=7;");
    read(x, "ahead number=7 and numberb=3;");
    read(x, "ahead number=3;");
    read(x, "ahead numberb=3;");
    read(x, "ahead number=7 and numberb=3;ahead number=3 and numberb=7;");
    due(1, x.where(0, 0, 0));
    due(1, x.where(1, 1, 0));
    due(0, x.where(1, 0, 0));
    due(1, x.where(2, 0, 0));
    due(1, x.where(3, 1, 0));
    due(0, x.orders(4));
    // No page is asked with itself.
    BrokenFugue y = new BrokenFugue();
    pages(y, 3, 3, 4);
    read(y, "ahead number=4 and numberb=4;beside number=4 and numberb=4;");
    read(y, "ahead number=3 and numberb=3;");
    due(6, y.orders(0));
    due(0, y.orders(1));
  }

  @Holds(promise = 31, words = "if an ahead clause is so, x lies ahead of y;")
  static void aheadFromFirstToLast(BrokenFugue x) {
    pages(x, 0, 1, 2, 3, 4, 5, 6, 7);
    // The last page ahead of the first, wherever the others are.
    read(x, "ahead number=7 and numberb=0;");
    due(20160, x.orders(0));
    due(0, x.where(0, 7, 7));
    due(5040, x.where(0, 7, 0));
    due(5040, x.where(0, 0, 7));
    // Any of ahead clauses; pair and line clauses do not matter.
    read(x, "pair 1 when 1=1;line 1 when 1=1;ahead number=7 and numberb=0;ahead number=0 and numberb=3;");
    due(40320 / 6, x.orders(1));
    read(x, "ahead number=7 and numberb=0;ahead number=0 and numberb=7;");
    due(0, x.orders(2));
    // Round through three there is no order either.
    read(x, "ahead number=7 and numberb=0;ahead number=0 and numberb=3;ahead number=3 and numberb=7;");
    due(0, x.orders(3));
  }

  @Holds(promise = 31, words = "if a beside clause is so, they lie beside one another.")
  static void besideAtTheEdges(BrokenFugue x) {
    pages(x, 0, 1, 2, 3, 4, 5, 6, 7);
    read(x, "beside number=7 and numberb=0;");
    due(2 * 5040, x.orders(0));
    due(720, x.where(0, 7, 0));
    due(720, x.where(0, 0, 7));
    due(1440, x.where(0, 1, 7));
    // The first and the last place are not beside one another.
    read(x, "beside number=7 and numberb=0;ahead number=7 and numberb>0;ahead numberb=0 and number>0;");
    due(0, x.orders(1));
    // One page beside two, but not three others.
    read(x, "beside number=7 and numberb<2;");
    due(2 * 720, x.orders(2));
    read(x, "beside number=7 and numberb<3;");
    due(0, x.orders(3));
    // All in one chain: it or its turning; a ring is none.
    read(x, "beside number+1=numberb;");
    due(2, x.orders(4));
    due(1, x.where(4, 0, 7));
    read(x, "beside number+1=numberb;beside number=7 and numberb=0;");
    due(0, x.orders(5));
  }

  @Holds(promise = 31, words = "ORDERS (1 without PAGES).")
  static void oneOrderOfNoPages(BrokenFugue x) {
    read(x, "");
    read(x, "ahead 1=1;beside 1=1;");
    due(1, x.orders(0));
    due(1, x.orders(1));
    x.page(0, 0, 0, 0);
    due(1, x.orders(0));
    due(1, x.orders(1));
    x.page(0, 0, 0, 0);
    due(2, x.orders(0));
    due(0, x.orders(1));
    x.back();
    read(x, "");
    due(1, x.orders(0));
  }

  @Holds(promise = 31, words = "NONE for others.")
  static void noOrdersOfOthers(BrokenFugue x) {
    due(NONE, x.orders(0));
    for (int text = 0; text < 6; text++) {
      due(text, read(x, ""));
      due(1, x.orders(text));
      due(NONE, x.orders(text + 1));
    }
    for (int bad : beyond(0, 5)) {
      due(NONE, x.orders(bad));
    }
  }

  @Holds(promise = 32, words = "AT: in how many of these a PAGE is at a place.")
  static void atThePlacesOfAll(BrokenFugue x) {
    read(x, "");
    read(x, "ahead number<numberb;");
    read(x, "ahead 1=1;");
    pages(x, 0, 1, 2, 3, 4, 5, 6, 7);
    for (int page = 0; page < 8; page++) {
      for (int place = 0; place < 8; place++) {
        due(5040, x.where(0, page, place));
        due(page == place, x.where(1, page, place) == 1);
        due(0, x.where(2, page, place));
      }
    }
  }

  @Holds(promise = 32, words = "AT: a PAGE (its number as told by page()) at a place (0 the first).")
  static void pagesAsToldAndPlacesFrom0(BrokenFugue x) {
    // The number of the page, not the NUMBER that it bears.
    due(0, x.page(2, 0, 0, 0));
    due(1, x.page(0, 0, 0, 0));
    due(2, x.page(1, 0, 0, 0));
    read(x, "ahead number<numberb;");
    due(1, x.where(0, 1, 0));
    due(1, x.where(0, 2, 1));
    due(1, x.where(0, 0, 2));
    due(0, x.where(0, 0, 0));
    due(0, x.where(0, 2, 2));
    // One page alone.
    BrokenFugue y = new BrokenFugue();
    read(y, "beside 1=1;");
    y.page(99, 0, 0, 0);
    due(1, y.where(0, 0, 0));
    due(NONE, y.where(0, 0, 1));
    due(NONE, y.where(0, 1, 0));
  }

  @Holds(promise = 32, words = "NONE for others.")
  static void nowhereOfOthers(BrokenFugue x) {
    read(x, "");
    due(NONE, x.where(0, 0, 0));
    pages(x, 0, 1, 2);
    due(2, x.where(0, 2, 2));
    for (int bad : beyond(0, 2)) {
      due(NONE, x.where(0, bad, 0));
      due(NONE, x.where(0, 0, bad));
    }
    for (int bad : beyond(0, 0)) {
      due(NONE, x.where(bad, 0, 0));
    }
    due(NONE, x.where(0, 7, 0));
    due(NONE, x.where(0, 0, 7));
  }

  @Holds(promise = 33, words = "STORIES: TEXTS with WEIGHTS (0 .. 9; at first 1):")
  static void weightsFrom0To9(BrokenFugue x) {
    read(x, "");
    due(1, x.about(40));
    for (int weight = 0; weight <= 9; weight++) {
      due(true, x.weight(0, weight));
      due(weight, x.about(40));
    }
    // A new text weighs 1, whatever others do, and a text that was there before.
    due(1, read(x, ""));
    due(1, x.about(41));
    x.weight(1, 7);
    x.back();
    read(x, "");
    read(x, "");
    due(1, x.about(40));
    due(1, x.about(41));
  }

  @Holds(promise = 33, words = "A TEXT's WEIGHT: true. False for others.")
  static void aRefusedWeightLeavesTheFormer(BrokenFugue x) {
    due(false, x.weight(0, 1));
    read(x, "");
    due(true, x.weight(0, 4));
    for (int bad : beyond(0, 9)) {
      due(false, x.weight(0, bad));
    }
    for (int bad : beyond(0, 0)) {
      due(false, x.weight(bad, 9));
    }
    due(false, x.weight(5, 9));
    due(4, x.about(40));
    due(1, read(x, ""));
    due(1, x.about(41));
  }

  @Holds(promise = 34, words = "ODDS of one among a set: WEIGHT * ORDERS in thousandths of all of these, cut.")
  static void oddsFrom0To1000(BrokenFugue x) {
    for (int text = 0; text < 6; text++) {
      read(x, text == 5 ? "ahead 1=1;" : "");
    }
    // Without PAGES each has one order.
    due(1000, x.story(32, 5));
    due(166, x.story(63, 0));
    due(166, x.story(63, 5));
    due(333, x.story(7, 1));
    due(500, x.story(33, 5));
    x.weight(0, 9);
    due(9000 / 14, x.story(63, 0));
    due(1000 / 14, x.story(63, 1));
    pages(x, 0, 1, 2, 3, 4, 5, 6, 7);
    due(1000 * 9 / 13, x.story(63, 0));
    due(1000 / 13, x.story(63, 4));
    due(0, x.story(63, 5));
    // The greatest sums are beyond 32 bits in thousandths.
    for (int text = 0; text < 6; text++) {
      x.weight(text, 9);
    }
    due(200, x.story(63, 0));
    due(1000, x.story(1, 0));
    due(1000, x.story(33, 0));
    due(500, x.story(24, 4));
    x.weight(4, 0);
    due(0, x.story(24, 4));
    due(1000, x.story(24, 3));
  }

  @Holds(promise = 34, words = "ODDS of a STORY among a set of TEXTS (bits; it is one of them).")
  static void itIsOneOfTheSet(BrokenFugue x) {
    for (int text = 0; text < 6; text++) {
      read(x, "");
    }
    for (int text = 0; text < 6; text++) {
      due(1000, x.story(1 << text, text));
      due(166, x.story(63, text));
      due(NONE, x.story(63 - (1 << text), text));
    }
    due(NONE, x.story(0, 0));
  }

  @Holds(promise = 34, words = "NONE: all are 0, and for others.")
  static void noOddsOfOthers(BrokenFugue x) {
    due(NONE, x.story(0, 0));
    due(NONE, x.story(1, 0));
    read(x, "");
    read(x, "ahead 1=1;");
    due(500, x.story(3, 0));
    for (int set : beyond(0, 3)) {
      due(NONE, x.story(set, 0));
    }
    for (int set : new int[] {5, 7, 63, 64, 65, 1 << 30}) {
      due(NONE, x.story(set, 0));
    }
    for (int text : new int[] {LOWEST, -1, 2, 31, 32, 33, HIGHEST}) {
      due(NONE, x.story(3, text));
    }
    // All are 0: by WEIGHT, or by ORDERS.
    x.weight(0, 0);
    due(NONE, x.story(1, 0));
    due(0, x.story(3, 0));
    due(1000, x.story(3, 1));
    pages(x, 1, 2);
    due(NONE, x.story(3, 0));
    due(NONE, x.story(2, 1));
    x.weight(0, 1);
    due(1000, x.story(3, 0));
    due(0, x.story(3, 1));
    due(NONE, x.story(2, 1));
  }

  @Holds(promise = 35, words = "AN IMAGE: all as it is, but the tape and the latest FAULT.")
  static void allButTheTapeAndTheFault(BrokenFugue x) {
    read(x, "!");
    lay(x, "pair");
    due(0, x.image());
    due(4, x.about(4));
    due(1, x.fault(0));
    due(0, x.fault(1));
    read(x, "ahead 1000");
    lay(x, "line 1");
    due(0, x.back());
    due(6, x.about(4));
    due(2, x.fault(0));
    due(6, x.fault(1));
    // A tape that grew or shrank, and a text without a fault.
    x.end(2);
    due(0, x.back());
    due(2, x.about(4));
    read(x, "");
    due(0, x.back());
    due(0, x.fault(0));
    due(NONE, x.fault(1));
  }

  /** All that an image keeps, at the edges of what there is. */
  private static void fill(BrokenFugue x, int pitch, int size) {
    x.note(0, 0, 0, pitch, 1);
    x.note(3, 3, 24, pitch, 8);
    x.subject(0, 0, size, 1);
    x.subject(5, 8, size, 4);
    x.bar(size);
    x.hand(0, size % 4);
    x.hand(3, size % 4);
    x.shape(1, size);
    x.page(size, 0, 0, 0);
  }

  @Holds(promise = 35, words = "AN IMAGE: all as it is, but the tape and the latest FAULT.")
  static void allOfIt(BrokenFugue x) {
    read(x, "line 1 when 1=1;");
    read(x, "ahead number<numberb;");
    x.weight(0, 9);
    x.weight(1, 0);
    fill(x, 60, 12);
    due(2, x.image());
    fill(x, 0, 1);
    x.weight(0, 3);
    x.weight(1, 4);
    read(x, "");
    x.copy(0, 3);
    due(2, x.back());
    due(60, x.at(0, 0, 0));
    due(60, x.at(3, 3, 24));
    due(160, x.at(3, 3, 31));
    due(NONE, x.at(3, 0, 0));
    due(12, x.about(35));
    due(1, x.about(30));
    due(12, x.about(0));
    due(0, x.about(20));
    due(0, x.about(23));
    due(1, x.about(3));
    due(12, x.lasts(0, true));
    due(1, x.about(2));
    due(1, x.orders(1));
    due(9, x.about(40));
    due(0, x.about(41));
    due(-2, x.about(42));
    // The subjects' PITCHES too.
    due(0, x.fit(0, 0, 5, 0, 0, false, 1));
    due(2, read(x, "pair gap when 1=1;"));
    due(0, x.fit(2, 0, 5, 0, 0, false, 1));
    x.subject(1, 0, 12, 1);
    due(0, x.fit(2, 0, 1, 0, 0, false, 1));
  }

  @Holds(promise = 35, words = "THE IMAGE is as all is now: how many TEXTS there are.")
  static void aLaterImageIsInItsPlace(BrokenFugue x) {
    due(0, x.image());
    for (int text = 0; text < 6; text++) {
      read(x, "");
      due(text + 1, x.image());
    }
    x.note(0, 0, 0, 5, 1);
    due(6, x.image());
    x.note(0, 0, 0, 6, 1);
    due(6, x.back());
    due(5, x.at(0, 0, 0));
    due(6, x.image());
    due(6, x.back());
    due(5, x.at(0, 0, 0));
    // There is no way back to the ones ahead of it.
    due(6, x.about(1));
  }

  @Holds(promise = 36, words = "BACK: all is so again.")
  static void allIsSoAgain(BrokenFugue x) {
    sing(x, 0, 0, 0, 30, 31);
    sing(x, 0, 1, 0, 20, 22);
    read(x, "line 5 when 1=1;");
    x.image();
    due(10, x.price(0, 0));
    // More and more comes, and none of it stays: as many texts, shapes and pages can come again.
    for (int round = 0; round < 3; round++) {
      for (int text = 1; text < 6; text++) {
        due(text, read(x, "line " + round + " when 1=1;"));
        due(2 * round, x.price(text, 0));
      }
      due(NONE, x.text());
      for (int shape = 1; shape <= 10; shape++) {
        due(shape, x.shape(1, 1 + round));
      }
      for (int page = 0; page < 8; page++) {
        due(page, x.page(round, 0, 0, 0));
      }
      x.note(0, 0, 0, NONE, 8);
      due(5, x.price(0, 0));
      due(1, x.back());
      due(10, x.price(0, 0));
      due(NONE, x.price(1, 0));
      due(0, x.about(2));
      due(0, x.about(3));
    }
  }

  @Holds(promise = 36, words = "BACK to THE IMAGE (it stays): how many TEXTS there are.")
  static void theImageStays(BrokenFugue x) {
    due(0, x.back());
    read(x, "");
    read(x, "");
    due(2, x.image());
    for (int times = 0; times < 3; times++) {
      x.note(0, 0, times, 5, 1);
      x.bar(times + 1);
      x.weight(1, times);
      due(2, x.back());
      due(0, x.about(10));
      due(4, x.about(0));
      due(1, x.about(41));
    }
    due(2, x.back());
    due(2, x.about(1));
    // A faulty text on the way does not trouble those of the image.
    due(NONE, read(x, "pair 1 when gap=1;!"));
    due(2, x.back());
    due(0, x.price(1, 0));
    due(NONE, x.price(2, 0));
  }

  @Holds(promise = 37, words = "0 BAR, 1 TEXTS, 2 PAGES, 3 SHAPES, 4 bytes of the tape, 10 + piece: its LENGTH, 20 + piece:"
      + " its HAND, 30 + subject: its BEATS, 40 + text: its WEIGHT.")
  static void eachWhatToItsBounds(BrokenFugue x) {
    int[] atFirst = {4, 0, 0, 0, 0};
    for (int what = 0; what < 5; what++) {
      due(atFirst[what], x.about(what));
    }
    x.bar(12);
    for (int text = 0; text < 6; text++) {
      due(text, x.about(1));
      due(-2, x.about(40 + text));
      read(x, "");
      due(1, x.about(40 + text));
      x.weight(text, 9 - text);
    }
    for (int i = 0; i < 10; i++) {
      x.shape(1, 1);
      x.page(1, 1, 1, 1);
    }
    lay(x, " ".repeat(300));
    int[] atLast = {12, 6, 8, 10, 300};
    for (int what = 0; what < 5; what++) {
      due(atLast[what], x.about(what));
    }
    for (int piece = 0; piece < 4; piece++) {
      x.note(piece, piece, 31 - piece, 0, 1);
      x.hand(piece, piece - 1);
      due(32 - piece, x.about(10 + piece));
      due(piece - 1, x.about(20 + piece));
    }
    for (int subject = 0; subject < 6; subject++) {
      x.subject(subject, 11 - subject, 0, 1);
      due(12 - subject, x.about(30 + subject));
    }
    for (int text = 0; text < 6; text++) {
      due(9 - text, x.about(40 + text));
    }
  }

  @Holds(promise = 37, words = "-2 for others.")
  static void nothingAboutOthers(BrokenFugue x) {
    for (int what : new int[] {LOWEST, -30, -2, -1, 5, 6, 9, 14, 15, 19, 24, 29, 36, 39, 40, 45, 46, 50, HIGHEST}) {
      due(-2, x.about(what));
    }
    read(x, "");
    read(x, "!");
    due(1, x.about(40));
    due(-2, x.about(41));
    due(-2, x.about(46));
    x.back();
    due(-2, x.about(40));
  }
}
