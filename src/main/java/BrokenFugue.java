import java.util.Arrays;

/** A fugue that breaks off: its pieces, the texts that price them, and the guesses at how it went on. */
public final class BrokenFugue {
  public static final int NONE = -1;

  private static final int PIECES = 4;
  private static final int VOICES = 4;
  private static final int BEATS = 32;
  private static final int TOP_PITCH = 60;
  private static final int LONGEST_NOTE = 8;
  private static final int LONGEST_BAR = 12;
  private static final int SUBJECTS = 6;
  private static final int SUBJECT_BEATS = 12;
  private static final int SUBJECT_RANGE = 20;
  private static final int SUBJECT_RESTS = -100;
  private static final int LONGEST_SUBJECT_NOTE = 4;
  private static final int TEXTS = 6;
  private static final int TAPE_BYTES = 300;
  private static final int CLAUSES = 10;
  private static final int DEEPEST = 8;
  private static final int TOP_PRICE = 999;
  private static final int BOUND = 1000000;
  private static final int HANDS = 4;
  private static final int SHAPES = 10;
  private static final int TOP_SHAPE = 9999;
  private static final int PAGES = 8;
  private static final int PAGE_SIGNS = 4;
  private static final int TOP_NUMBER = 99;
  private static final int TOP_SIGN = 9;
  private static final int TOP_WEIGHT = 9;

  private static final int TOP_HEIGHT = 12;
  private static final int HEIGHTS = 25;
  private static final int DELAYS = 9;
  private static final int UPRIGHT_FORMS = 225;
  private static final int UNSTRETCHED_FORMS = 450;
  private static final int FORMS = 900;
  private static final int THREE_TOP_HEIGHT = 5;
  private static final int THREE_HEIGHTS = 11;
  private static final int THREE_DELAYS = 4;
  private static final int THREE_UPRIGHT_FORMS = 44;
  private static final int THREE_FORMS = 88;
  private static final int TOP_CHANCES = 40;
  private static final int TOP_SEED = 9999;

  private static final int TOP_STEP = 12;
  private static final int STEPS = 25;
  // What lies behind a voice's first note, and what is learnt when nothing is asked behind a step: never alike.
  private static final int NO_STEP = 100;
  private static final int NO_STEP_ASKED = 101;
  private static final int MADE_NOTES = 5;
  private static final int MADE_REACH = 7;
  private static final int MADE_CHOICES = 15;
  private static final int MADE_PAIRS = 225;

  // Above every price and every total of prices.
  private static final int NO_BOUND = 2147483647;

  private static final int RESTS = 0;
  private static final int BEGINS = 1;
  private static final int HELD = 2;

  private static final int PAIR = 0;
  private static final int LINE = 1;
  private static final int AHEAD = 2;
  private static final int BESIDE = 3;

  // The words of texts: the four sorts, the four small words, then the names in the order of their numbers.
  private static final String WORDS =
      "pair line ahead beside when or and not gap was mine yours low high cross hold place step last pitch rest number ruling ink size numberb rulingb inkb sizeb ";
  private static final int WORD_WHEN = 4;
  private static final int WORD_OR = 5;
  private static final int WORD_AND = 6;
  private static final int WORD_NOT = 7;
  private static final int WORD_NAMES = 8;

  private static final int GAP = 0;
  private static final int WAS = 1;
  private static final int MINE = 2;
  private static final int YOURS = 3;
  private static final int LOW = 4;
  private static final int HIGH = 5;
  private static final int CROSS = 6;
  private static final int HOLD = 7;
  private static final int PLACE = 8;
  private static final int STEP = 9;
  private static final int LAST = 10;
  private static final int PITCH = 11;
  private static final int REST = 12;
  private static final int NUMBER = 13;
  private static final int NUMBER_B = 17;
  private static final int NAMES = 21;

  // Marks of a clause's code: numbers stand for themselves, names and operators begin above them.
  private static final int CODE_NAME = 1000;
  private static final int CODE_OPERATOR = 2000;

  // Operators, which are the kinds of their tokens too.
  private static final int OPEN = 0;
  private static final int OR = 1;
  private static final int AND = 2;
  private static final int NOT = 3;
  private static final int LESS = 4;
  private static final int AT_MOST = 5;
  private static final int MORE = 6;
  private static final int AT_LEAST = 7;
  private static final int LIKE = 8;
  private static final int UNLIKE = 9;
  private static final int PLUS = 10;
  private static final int MINUS = 11;
  private static final int TIMES = 12;
  private static final int CUT = 13;
  private static final int NEGATIVE = 14;
  // The kinds of tokens that are no operators.
  private static final int SHUT = 15;
  private static final int STOP = 16;
  private static final int WHEN = 17;
  private static final int SORT_WORD = 18;
  private static final int NAME_WORD = 19;
  private static final int DIGITS = 20;
  private static final int END = 21;
  private static final int NO_TOKEN = 22;

  private static final int LEVEL_OR = 1;
  private static final int LEVEL_AND = 2;
  private static final int LEVEL_SUM = 5;
  private static final int LEVEL_PRODUCT = 6;
  // By operator, OPEN first: what binds tighter has the higher level; an open parenthesis lets go none.
  private static final int[] LEVELS = {0, 1, 2, 3, 4, 4, 4, 4, 4, 4, 5, 5, 6, 6, 7};

  private static final int FAULT_MISPLACED = 1;
  private static final int FAULT_NUMBER = 2;
  private static final int FAULT_DEPTH = 3;
  private static final int FAULT_NAME = 4;
  private static final int FAULT_CLAUSES = 5;

  private final State now = new State();
  private final State saved = new State();
  // Texts only ever come behind one another, so those of the image are the first of these: its number of them suffices.
  private final Rules[] rules = new Rules[TEXTS];
  private final Reader reader = new Reader();
  private final Judge judge = new Judge();
  private final Fitter fitter = new Fitter();
  private final Maker maker = new Maker();
  private final Binder binder = new Binder();
  private final Steps steps = new Steps();
  private final Steps otherSteps = new Steps();
  private final Line[] overturned = new Line[VOICES];
  private boolean anyRead = false;

  public BrokenFugue() {
    for (int i = 0; i < TEXTS; i++) {
      rules[i] = new Rules();
    }
    for (int v = 0; v < VOICES; v++) {
      overturned[v] = new Line(BEATS);
    }
  }

  public int note(int piece, int voice, int beat, int pitch, int length) {
    if (!isPiece(piece) || !isVoice(voice) || !isNote(beat, length, LONGEST_NOTE, BEATS)) {
      return NONE;
    }
    if (pitch != NONE && !isPitch(pitch)) {
      return NONE;
    }
    Line line = now.voices[piece * VOICES + voice];
    if (pitch == NONE) {
      line.silence(beat, length);
    } else {
      line.sing(beat, pitch, length);
    }
    return now.lengthOf(piece);
  }

  public int at(int piece, int voice, int beat) {
    if (!isPiece(piece) || !isVoice(voice) || !within(beat, 0, BEATS - 1)) {
      return NONE;
    }
    Line line = now.voices[piece * VOICES + voice];
    if (line.kind[beat] == RESTS) {
      return NONE;
    }
    return line.kind[beat] == HELD ? line.pitch[beat] + 100 : line.pitch[beat];
  }

  public int subject(int subject, int beat, int pitch, int length) {
    if (!isSubject(subject) || !isNote(beat, length, LONGEST_SUBJECT_NOTE, SUBJECT_BEATS)) {
      return NONE;
    }
    if (pitch != SUBJECT_RESTS && !within(pitch, -SUBJECT_RANGE, SUBJECT_RANGE)) {
      return NONE;
    }
    Line line = now.subjects[subject];
    if (pitch == SUBJECT_RESTS) {
      line.silence(beat, length);
    } else {
      line.sing(beat, pitch, length);
    }
    return line.beats();
  }

  public boolean bar(int beats) {
    if (!within(beats, 1, LONGEST_BAR)) {
      return false;
    }
    now.bar = beats;
    return true;
  }

  public boolean copy(int from, int to) {
    if (!isPiece(from) || !isPiece(to)) {
      return false;
    }
    for (int v = 0; v < VOICES; v++) {
      now.voices[to * VOICES + v].take(now.voices[from * VOICES + v]);
    }
    return true;
  }

  public int feed(int a, int b, int c, int d, int e) {
    if (reader.length + 20 > TAPE_BYTES) {
      return NONE;
    }
    reader.append(a);
    reader.append(b);
    reader.append(c);
    reader.append(d);
    reader.append(e);
    return reader.length;
  }

  public int end(int n) {
    if (n < 0 || n > reader.length) {
      return NONE;
    }
    reader.length = n;
    return n;
  }

  public int text() {
    if (now.texts >= TEXTS) {
      return NONE;
    }
    reader.read(rules[now.texts]);
    reader.length = 0;
    anyRead = true;
    if (reader.fault != 0) {
      return NONE;
    }
    now.weights[now.texts] = 1;
    now.texts++;
    return now.texts - 1;
  }

  public int fault(int what) {
    if (!anyRead || !within(what, 0, 1)) {
      return NONE;
    }
    return what == 0 ? reader.fault : reader.place;
  }

  public int price(int text, int piece) {
    if (!isText(text) || !isPiece(piece)) {
      return NONE;
    }
    judge.begin(now.bar, NONE);
    judge.askPiece(rules[text], now.voices, piece * VOICES, 0);
    return judge.total;
  }

  public int breaks(int text, int piece, int i, int what) {
    if (!isText(text) || !isPiece(piece)) {
      return NONE;
    }
    judge.begin(now.bar, i);
    judge.askPiece(rules[text], now.voices, piece * VOICES, 0);
    if (i == NONE) {
      return judge.count;
    }
    if (i < 0 || i >= judge.count || !within(what, 0, 4)) {
      return NONE;
    }
    return judge.found[what];
  }

  public int fit(int text, int one, int other, int h, int d, boolean turned, int m) {
    if (!isText(text) || !hasNotes(one) || !hasNotes(other)) {
      return NONE;
    }
    if (!within(h, -TOP_HEIGHT, TOP_HEIGHT) || !within(d, 0, DELAYS - 1) || !within(m, 1, 2)) {
      return NONE;
    }
    fitter.begin(rules[text], now.bar, now.subjects[one]);
    int form = (m - 1) * UNSTRETCHED_FORMS + (turned ? UPRIGHT_FORMS : 0) + d * HEIGHTS + h + TOP_HEIGHT;
    return fitter.priceOf(rules[text], now.subjects[other], form, NO_BOUND);
  }

  public int fits(int text, int one, int other, int limit, int i) {
    if (!isText(text) || !hasNotes(one) || !hasNotes(other) || !within(limit, 0, BOUND) || i < NONE) {
      return NONE;
    }
    fitter.begin(rules[text], now.bar, now.subjects[one]);
    int count = 0;
    for (int form = 0; form < FORMS; form++) {
      if (fitter.priceOf(rules[text], now.subjects[other], form, limit) > limit) {
        continue;
      }
      if (count == i) {
        return formCode(form);
      }
      count++;
    }
    return i == NONE ? count : NONE;
  }

  public int cheapest(int text, int one, int other, int what) {
    if (!isText(text) || !hasNotes(one) || !hasNotes(other) || !within(what, 0, 1)) {
      return NONE;
    }
    fitter.begin(rules[text], now.bar, now.subjects[one]);
    fitter.findCheapest(rules[text], now.subjects[other], NONE);
    return what == 0 ? fitter.bestPrice : formCode(fitter.bestForm);
  }

  public int three(int text, int one, int two, int third, int what) {
    if (!isText(text) || !hasNotes(one) || !hasNotes(two) || !hasNotes(third) || !within(what, 0, 2)) {
      return NONE;
    }
    if (one == two || one == third || two == third) {
      return NONE;
    }
    fitter.begin(rules[text], now.bar, now.subjects[one]);
    fitter.findThree(rules[text], now.subjects[two], now.subjects[third]);
    if (what == 0) {
      return fitter.bestPrice;
    }
    return formCode(what == 1 ? fitter.bestForm : fitter.bestThird);
  }

  public int chance(int text, int one, int other, int limit, int n, int seed) {
    if (!isText(text) || !hasNotes(one) || !hasNotes(other) || !within(limit, 0, BOUND)) {
      return NONE;
    }
    if (!within(n, 1, TOP_CHANCES) || !within(seed, 0, TOP_SEED)) {
      return NONE;
    }
    fitter.begin(rules[text], now.bar, now.subjects[one]);
    int odds = 0;
    for (int k = 0; k < n; k++) {
      fitter.shuffle(now.subjects[other], seed + 1000 * k);
      fitter.findCheapest(rules[text], fitter.shuffled, limit);
      if (fitter.bestPrice <= limit) {
        odds++;
      }
    }
    return odds;
  }

  public int seen(int set, int step) {
    if (!isSet(set) || !within(step, -TOP_STEP, TOP_STEP)) {
      return NONE;
    }
    learn(steps, set, NO_STEP_ASKED);
    return steps.seen[step + TOP_STEP];
  }

  public int strange(int set, int piece) {
    if (!isSet(set) || !isPiece(piece)) {
      return NONE;
    }
    learn(otherSteps, set & ~(1 << piece), NO_STEP_ASKED);
    learn(steps, 1 << piece, NO_STEP_ASKED);
    return steps.strangeBy(otherSteps);
  }

  public int follows(int set, int piece, int voice, int pitch) {
    if (!isSet(set) || !isPiece(piece) || !isVoice(voice) || !isPitch(pitch)) {
      return NONE;
    }
    Line line = now.voices[piece * VOICES + voice];
    int lastNote = line.noteAhead(BEATS);
    int noteBefore = line.noteAhead(lastNote);
    if (lastNote < 0 || noteBefore < 0) {
      return NONE;
    }
    learn(steps, set, boundedStep(line.pitch[lastNote] - line.pitch[noteBefore]));
    if (steps.behindAll < 1) {
      return NONE;
    }
    int step = boundedStep(pitch - line.pitch[lastNote]);
    return 1000 * steps.behind[step + TOP_STEP] / steps.behindAll;
  }

  public int never(int set, int piece, int voice) {
    if (!isSet(set) || !isPiece(piece) || !isVoice(voice)) {
      return NONE;
    }
    Line line = now.voices[piece * VOICES + voice];
    int lastNote = line.noteAhead(BEATS);
    if (lastNote < 0) {
      return NONE;
    }
    learn(steps, set, NO_STEP_ASKED);
    int unseen = 0;
    for (int pitch = 0; pitch <= TOP_PITCH; pitch++) {
      if (steps.seen[boundedStep(pitch - line.pitch[lastNote]) + TOP_STEP] == 0) {
        unseen++;
      }
    }
    return unseen;
  }

  public boolean hand(int piece, int hand) {
    if (!isPiece(piece) || !within(hand, NONE, HANDS - 1)) {
      return false;
    }
    now.hands[piece] = hand;
    return true;
  }

  public int apart(int one, int other) {
    if (!isSet(one) || !isSet(other)) {
      return NONE;
    }
    learn(steps, one, NO_STEP_ASKED);
    learn(otherSteps, other, NO_STEP_ASKED);
    return steps.distanceTo(otherSteps);
  }

  public int whose(int piece, int what) {
    if (!isPiece(piece) || !within(what, 0, 1)) {
      return NONE;
    }
    learn(steps, 1 << piece, NO_STEP_ASKED);
    int nearest = NONE;
    int least = NONE;
    for (int hand = 0; hand < HANDS; hand++) {
      learn(otherSteps, now.piecesOf(hand) & ~(1 << piece), NO_STEP_ASKED);
      int distance = steps.distanceTo(otherSteps);
      if (distance != NONE && (nearest == NONE || distance < least)) {
        nearest = hand;
        least = distance;
      }
    }
    return what == 0 ? nearest : least;
  }

  public int endings(int text, int set, int piece, int k, int what) {
    if (!isText(text) || !isSet(set) || !isPiece(piece) || !within(k, 0, BEATS - 1)) {
      return NONE;
    }
    if (within(what, 10, 10 + PIECES - 1)) {
      return isEnding(piece, what - 10, k) ? worth(text, set, what - 10, k) : NONE;
    }
    if (!within(what, 0, 1)) {
      return NONE;
    }
    int count = 0;
    int best = NONE;
    int least = NONE;
    for (int ending = 0; ending < PIECES; ending++) {
      if (!isEnding(piece, ending, k)) {
        continue;
      }
      count++;
      int price = worth(text, set, ending, k);
      if (best == NONE || price < least) {
        best = ending;
        least = price;
      }
    }
    return what == 0 ? count : best;
  }

  public int made(int text, int piece, int voice, int n, int i) {
    if (!isText(text) || !isPiece(piece) || !isVoice(voice) || !within(n, 1, MADE_NOTES)) {
      return NONE;
    }
    int from = now.voices[piece * VOICES + voice].beats();
    if (!within(i, NONE, n - 1) || from < 1 || from + n > BEATS) {
      return NONE;
    }
    maker.begin(now, piece, voice, n);
    maker.solve(rules[text]);
    return i == NONE ? maker.least : maker.chosen[i];
  }

  public int head(int text, int piece, int c, int what) {
    if (!isText(text) || !isPiece(piece) || !within(c, 0, 2 * TOP_PITCH) || !within(what, 0, 1)) {
      return NONE;
    }
    boolean can = true;
    for (int v = 0; v < VOICES; v++) {
      can = overturned[v].takeOverturned(now.voices[piece * VOICES + VOICES - 1 - v], c) && can;
    }
    if (what == 0 || !can) {
      return what == 1 ? NONE : can ? 1 : 0;
    }
    judge.begin(now.bar, NONE);
    judge.askPiece(rules[text], overturned, 0, 0);
    return judge.total;
  }

  public int shape(int part, int whole) {
    if (now.shapes >= SHAPES || !within(whole, 1, TOP_SHAPE) || !within(part, 1, whole)) {
      return NONE;
    }
    now.parts[now.shapes] = part;
    now.wholes[now.shapes] = whole;
    now.shapes++;
    return now.shapes;
  }

  public int lasts(int piece, boolean most) {
    if (!isPiece(piece) || now.shapes < 1) {
      return NONE;
    }
    int length = now.lengthOf(piece);
    int found = NONE;
    for (int i = 0; i < now.shapes; i++) {
      int lasting = length * now.wholes[i] / Math.max(1, now.parts[i]);
      if (found == NONE || (most ? lasting > found : lasting < found)) {
        found = lasting;
      }
    }
    return found;
  }

  public int page(int number, int ruling, int ink, int size) {
    if (now.pages >= PAGES || !within(number, 0, TOP_NUMBER) || !within(ruling, 0, TOP_SIGN)) {
      return NONE;
    }
    if (!within(ink, 0, TOP_SIGN) || !within(size, 0, TOP_SIGN)) {
      return NONE;
    }
    int first = now.pages * PAGE_SIGNS;
    now.pageSigns[first] = number;
    now.pageSigns[first + 1] = ruling;
    now.pageSigns[first + 2] = ink;
    now.pageSigns[first + 3] = size;
    now.pages++;
    return now.pages - 1;
  }

  public int orders(int text) {
    if (!isText(text)) {
      return NONE;
    }
    return ordersOf(text);
  }

  public int where(int text, int page, int place) {
    if (!isText(text) || !within(page, 0, now.pages - 1) || !within(place, 0, now.pages - 1)) {
      return NONE;
    }
    binder.link(rules[text], now);
    return binder.count(now.pages, page, place);
  }

  public boolean weight(int text, int v) {
    if (!isText(text) || !within(v, 0, TOP_WEIGHT)) {
      return false;
    }
    now.weights[text] = v;
    return true;
  }

  public int story(int set, int text) {
    if (!isText(text) || set < 0 || set >= 1 << now.texts || (set >> text & 1) == 0) {
      return NONE;
    }
    long all = 0;
    long its = 0;
    for (int i = 0; i < now.texts; i++) {
      if ((set >> i & 1) == 0) {
        continue;
      }
      long share = (long) now.weights[i] * ordersOf(i);
      all += share;
      if (i == text) {
        its = share;
      }
    }
    return all < 1 ? NONE : (int) (1000 * its / all);
  }

  public int image() {
    saved.take(now);
    return now.texts;
  }

  public int back() {
    now.take(saved);
    return now.texts;
  }

  public int about(int what) {
    switch (what) {
      case 0:
        return now.bar;
      case 1:
        return now.texts;
      case 2:
        return now.pages;
      case 3:
        return now.shapes;
      case 4:
        return reader.length;
      default:
        return aboutOne(what);
    }
  }

  private int aboutOne(int what) {
    if (within(what, 10, 10 + PIECES - 1)) {
      return now.lengthOf(what - 10);
    }
    if (within(what, 20, 20 + PIECES - 1)) {
      return now.hands[what - 20];
    }
    if (within(what, 30, 30 + SUBJECTS - 1)) {
      return now.subjects[what - 30].beats();
    }
    if (within(what, 40, 40 + now.texts - 1)) {
      return now.weights[what - 40];
    }
    return -2;
  }

  private static boolean within(int x, int least, int most) {
    return x >= least && x <= most;
  }

  private static boolean isPiece(int piece) {
    return within(piece, 0, PIECES - 1);
  }

  private static boolean isVoice(int voice) {
    return within(voice, 0, VOICES - 1);
  }

  private static boolean isPitch(int pitch) {
    return within(pitch, 0, TOP_PITCH);
  }

  private static boolean isSubject(int subject) {
    return within(subject, 0, SUBJECTS - 1);
  }

  private static boolean isSet(int set) {
    return within(set, 0, (1 << PIECES) - 1);
  }

  private static boolean isNote(int beat, int length, int longest, int beats) {
    return within(length, 1, longest) && within(beat, 0, beats - length);
  }

  private static int boundedStep(int step) {
    return Math.max(-TOP_STEP, Math.min(TOP_STEP, step));
  }

  private static int formCode(int form) {
    int height = form % HEIGHTS;
    int delay = form / HEIGHTS % DELAYS;
    int turned = form / UPRIGHT_FORMS % 2;
    return 10000 * (form / UNSTRETCHED_FORMS) + 5000 * turned + 100 * delay + height;
  }

  private static int formOfThree(int i) {
    int height = i % THREE_HEIGHTS - THREE_TOP_HEIGHT;
    int delay = i / THREE_HEIGHTS % THREE_DELAYS;
    int turned = i / THREE_UPRIGHT_FORMS;
    return turned * UPRIGHT_FORMS + delay * HEIGHTS + height + TOP_HEIGHT;
  }

  private boolean isText(int text) {
    return within(text, 0, now.texts - 1);
  }

  private boolean hasNotes(int subject) {
    return isSubject(subject) && now.subjects[subject].beats() > 0;
  }

  private void learn(Steps into, int set, int behindStep) {
    into.clear();
    for (int i = 0; i < PIECES * VOICES; i++) {
      if ((set >> i / VOICES & 1) != 0) {
        into.add(now.voices[i], behindStep);
      }
    }
  }

  private boolean isEnding(int piece, int ending, int k) {
    if (piece == ending) {
      return false;
    }
    for (int v = 0; v < VOICES; v++) {
      if (!now.voices[piece * VOICES + v].isLike(now.voices[ending * VOICES + v], k)) {
        return false;
      }
    }
    return true;
  }

  private int worth(int text, int set, int ending, int k) {
    judge.begin(now.bar, NONE);
    judge.askPiece(rules[text], now.voices, ending * VOICES, k);
    learn(otherSteps, set & ~(1 << ending), NO_STEP_ASKED);
    learn(steps, 1 << ending, NO_STEP_ASKED);
    return judge.total + Math.max(0, steps.strangeBy(otherSteps));
  }

  private int ordersOf(int text) {
    binder.link(rules[text], now);
    return binder.count(now.pages, NONE, NONE);
  }

  /** One voice by beats: each rests, begins its pitch or holds it. */
  private static final class Line {
    private final int[] pitch;
    private final int[] kind;

    Line(int beats) {
      pitch = new int[Math.max(0, beats)];
      kind = new int[Math.max(0, beats)];
    }

    void sing(int beat, int newPitch, int length) {
      fill(beat, length, newPitch, HELD);
      if (within(beat, 0, kind.length - 1)) {
        kind[beat] = BEGINS;
      }
    }

    void silence(int beat, int length) {
      fill(beat, length, 0, RESTS);
    }

    private void fill(int beat, int length, int newPitch, int newKind) {
      int next = beat + length;
      for (int t = Math.max(0, beat); t < next && t < kind.length; t++) {
        pitch[t] = newPitch;
        kind[t] = newKind;
      }
      if (within(next, 0, kind.length - 1) && kind[next] == HELD) {
        kind[next] = BEGINS;
      }
    }

    int beats() {
      for (int t = kind.length; t > 0; t--) {
        if (kind[t - 1] != RESTS) {
          return t;
        }
      }
      return 0;
    }

    /** The beat at which the latest note ahead of a beat begins. */
    int noteAhead(int beat) {
      for (int t = Math.min(beat, kind.length) - 1; t >= 0; t--) {
        if (kind[t] == BEGINS) {
          return t;
        }
      }
      return NONE;
    }

    int restsAhead(int beat) {
      int rests = 0;
      for (int t = Math.min(beat, kind.length) - 1; t >= 0 && kind[t] == RESTS; t--) {
        rests++;
      }
      return rests;
    }

    boolean sounds(int t) {
      return within(t, 0, kind.length - 1) && kind[t] != RESTS;
    }

    void take(Line other) {
      int size = Math.min(kind.length, other.kind.length);
      System.arraycopy(other.pitch, 0, pitch, 0, size);
      System.arraycopy(other.kind, 0, kind, 0, size);
    }

    boolean isLike(Line other, int beforeBeat) {
      for (int t = 0; t < beforeBeat && t < kind.length && t < other.kind.length; t++) {
        if (kind[t] != other.kind[t] || pitch[t] != other.pitch[t]) {
          return false;
        }
      }
      return true;
    }

    /** Takes a voice with each pitch x as c - x, and tells whether all of these are pitches. */
    boolean takeOverturned(Line other, int c) {
      take(other);
      boolean can = true;
      for (int t = 0; t < kind.length; t++) {
        if (kind[t] != RESTS) {
          pitch[t] = c - pitch[t];
          can = can && isPitch(pitch[t]);
        }
      }
      return can;
    }

    void takeForm(Line subject, int form) {
      int height = 30 + form % HEIGHTS - TOP_HEIGHT;
      int delay = form / HEIGHTS % DELAYS;
      int sign = form / UPRIGHT_FORMS % 2 == 1 ? -1 : 1;
      int stretch = 1 + form / UNSTRETCHED_FORMS;
      Arrays.fill(kind, RESTS);
      for (int b = 0; b < subject.kind.length; b++) {
        if (subject.kind[b] == RESTS) {
          continue;
        }
        for (int s = 0; s < stretch; s++) {
          int t = delay + stretch * b + s;
          if (within(t, 0, kind.length - 1)) {
            kind[t] = s == 0 ? subject.kind[b] : HELD;
            pitch[t] = height + sign * subject.pitch[b];
          }
        }
      }
    }
  }

  /** All that an image keeps. */
  private static final class State {
    private final Line[] voices = new Line[PIECES * VOICES];
    private final Line[] subjects = new Line[SUBJECTS];
    private final int[] hands = new int[PIECES];
    private final int[] weights = new int[TEXTS];
    private final int[] parts = new int[SHAPES];
    private final int[] wholes = new int[SHAPES];
    private final int[] pageSigns = new int[PAGES * PAGE_SIGNS];
    private int bar = 4;
    private int texts = 0;
    private int shapes = 0;
    private int pages = 0;

    State() {
      for (int i = 0; i < voices.length; i++) {
        voices[i] = new Line(BEATS);
      }
      for (int i = 0; i < subjects.length; i++) {
        subjects[i] = new Line(SUBJECT_BEATS);
      }
      Arrays.fill(hands, NONE);
    }

    void take(State other) {
      for (int i = 0; i < voices.length; i++) {
        voices[i].take(other.voices[i]);
      }
      for (int i = 0; i < subjects.length; i++) {
        subjects[i].take(other.subjects[i]);
      }
      System.arraycopy(other.hands, 0, hands, 0, PIECES);
      System.arraycopy(other.weights, 0, weights, 0, TEXTS);
      System.arraycopy(other.parts, 0, parts, 0, SHAPES);
      System.arraycopy(other.wholes, 0, wholes, 0, SHAPES);
      System.arraycopy(other.pageSigns, 0, pageSigns, 0, PAGES * PAGE_SIGNS);
      bar = other.bar;
      texts = other.texts;
      shapes = other.shapes;
      pages = other.pages;
    }

    int lengthOf(int piece) {
      int length = 0;
      for (int v = 0; v < VOICES; v++) {
        length = Math.max(length, voices[piece * VOICES + v].beats());
      }
      return length;
    }

    int piecesOf(int hand) {
      int set = 0;
      for (int piece = 0; piece < PIECES; piece++) {
        if (hands[piece] == hand) {
          set |= 1 << piece;
        }
      }
      return set;
    }
  }

  /** A text that was read: of each clause first the code of its price, then that of what it asks. */
  private static final class Rules {
    private final int[] code = new int[TAPE_BYTES];
    private final int[] sort = new int[CLAUSES];
    private final int[] start = new int[CLAUSES];
    private final int[] condition = new int[CLAUSES];
    private final int[] stop = new int[CLAUSES];
    private int clauses = 0;
    private int size = 0;

    void emit(int mark) {
      if (size < code.length) {
        code[size] = mark;
        size++;
      }
    }

    void open(int newSort) {
      if (clauses < CLAUSES) {
        sort[clauses] = newSort;
        start[clauses] = size;
        condition[clauses] = size;
      }
    }

    void beginCondition() {
      if (clauses < CLAUSES) {
        condition[clauses] = size;
      }
    }

    void close() {
      if (clauses < CLAUSES) {
        stop[clauses] = size;
        clauses++;
      }
    }

    boolean has(int wantedSort) {
      for (int c = 0; c < clauses; c++) {
        if (sort[c] == wantedSort) {
          return true;
        }
      }
      return false;
    }
  }

  /**
   * The tape and the reading of it. Operators wait on a stack of their own until what they bind has come, so that no
   * depth of a text is a depth of calls.
   */
  private static final class Reader {
    private static final int AT_CLAUSE = 0;
    private static final int AT_ASK = 1;
    private static final int AT_ONE = 2;
    private static final int BEHIND_ONE = 3;
    private static final int AT_END = 4;

    private final int[] tape = new int[TAPE_BYTES];
    private final int[] waiting = new int[TAPE_BYTES];
    private int length = 0;
    private int fault = 0;
    private int place = NONE;
    private int next = 0;
    private int tokenStart = 0;
    private int tokenKind = END;
    private int tokenValue = 0;
    private int due = AT_CLAUSE;
    private int sort = PAIR;
    private boolean inPrice = false;
    private boolean compared = false;
    private int waitingCount = 0;
    private int parentheses = 0;
    private int around = 0;

    void append(int four) {
      for (int shift = 24; shift >= 0 && length < tape.length; shift -= 8) {
        tape[length] = four >>> shift & 255;
        length++;
      }
    }

    void read(Rules into) {
      fault = 0;
      place = NONE;
      next = 0;
      due = AT_CLAUSE;
      into.clauses = 0;
      into.size = 0;
      for (int tokens = 0; tokens <= length && due != AT_END && fault == 0; tokens++) {
        scan();
        take(into);
      }
    }

    private void take(Rules into) {
      switch (due) {
        case AT_CLAUSE:
          takeSort(into);
          break;
        case AT_ASK:
        case AT_ONE:
          takeOne(into);
          break;
        default:
          takeBehind(into);
          break;
      }
    }

    private void refuse(int newFault) {
      fault = newFault;
      place = tokenStart;
    }

    private void takeSort(Rules into) {
      if (tokenKind == END) {
        due = AT_END;
      } else if (tokenKind != SORT_WORD) {
        refuse(FAULT_MISPLACED);
      } else if (into.clauses >= CLAUSES) {
        refuse(FAULT_CLAUSES);
      } else {
        sort = tokenValue;
        inPrice = sort == PAIR || sort == LINE;
        compared = false;
        waitingCount = 0;
        parentheses = 0;
        around = 0;
        into.open(sort);
        due = inPrice ? AT_ONE : AT_ASK;
      }
    }

    private void takeOne(Rules into) {
      switch (tokenKind) {
        case DIGITS:
          if (tokenValue > TOP_PRICE) {
            refuse(FAULT_NUMBER);
          } else {
            takeOperand(into, tokenValue);
          }
          break;
        case NAME_WORD:
          if (!isNameOfSort()) {
            refuse(FAULT_NAME);
          } else {
            takeOperand(into, CODE_NAME + tokenValue);
          }
          break;
        case OPEN:
        case MINUS:
          nest(tokenKind == MINUS ? NEGATIVE : OPEN, AT_ONE);
          break;
        case NOT:
          if (due != AT_ASK) {
            refuse(FAULT_MISPLACED);
          } else {
            nest(NOT, AT_ASK);
          }
          break;
        default:
          refuse(FAULT_MISPLACED);
          break;
      }
    }

    private boolean isNameOfSort() {
      switch (sort) {
        case PAIR:
          return within(tokenValue, GAP, PLACE);
        case LINE:
          return within(tokenValue, PLACE, REST);
        default:
          return within(tokenValue, NUMBER, NAMES - 1);
      }
    }

    private void takeOperand(Rules into, int mark) {
      into.emit(mark);
      due = BEHIND_ONE;
    }

    private void nest(int operator, int newDue) {
      if (around >= DEEPEST) {
        refuse(FAULT_DEPTH);
        return;
      }
      around++;
      if (operator == OPEN) {
        parentheses++;
      }
      hold(operator);
      due = newDue;
    }

    private void hold(int operator) {
      if (waitingCount < waiting.length) {
        waiting[waitingCount] = operator;
        waitingCount++;
      }
    }

    /** Lets go all waiting operators, from the last on, that bind as tightly as a level or tighter. */
    private void release(Rules into, int level) {
      for (int i = waitingCount - 1; i >= 0; i--) {
        int operator = waiting[i];
        if (LEVELS[operator] < level) {
          return;
        }
        if (operator == NOT || operator == NEGATIVE) {
          around--;
        }
        into.emit(CODE_OPERATOR + operator);
        waitingCount = i;
      }
    }

    private void takeBehind(Rules into) {
      boolean bare = parentheses == 0;
      boolean asked = bare && !inPrice && compared;
      if (within(tokenKind, PLUS, CUT)) {
        release(into, tokenKind <= MINUS ? LEVEL_SUM : LEVEL_PRODUCT);
        hold(tokenKind);
        due = AT_ONE;
      } else if (tokenKind == SHUT && !bare) {
        shutParenthesis(into);
      } else if (within(tokenKind, LESS, UNLIKE) && bare && !inPrice && !compared) {
        release(into, LEVEL_SUM);
        hold(tokenKind);
        compared = true;
        due = AT_ONE;
      } else if ((tokenKind == OR || tokenKind == AND) && asked) {
        release(into, tokenKind == OR ? LEVEL_OR : LEVEL_AND);
        hold(tokenKind);
        compared = false;
        due = AT_ASK;
      } else if (tokenKind == WHEN && bare && inPrice) {
        release(into, LEVEL_OR);
        into.beginCondition();
        inPrice = false;
        due = AT_ASK;
      } else if (tokenKind == STOP && asked) {
        release(into, LEVEL_OR);
        into.close();
        due = AT_CLAUSE;
      } else {
        refuse(FAULT_MISPLACED);
      }
    }

    private void shutParenthesis(Rules into) {
      release(into, LEVEL_OR);
      waitingCount = Math.max(0, waitingCount - 1);
      parentheses--;
      around--;
    }

    private void scan() {
      while (next < length && (tape[next] == 32 || tape[next] == 10)) {
        next++;
      }
      tokenStart = next;
      if (next >= length) {
        tokenKind = END;
      } else if (isLetter(tape[next])) {
        scanWord();
      } else if (isDigit(tape[next])) {
        scanDigits();
      } else {
        scanSign();
      }
    }

    private static boolean isLetter(int sign) {
      return within(sign, 'a', 'z') || within(sign, 'A', 'Z');
    }

    private static boolean isDigit(int sign) {
      return within(sign, '0', '9');
    }

    private void scanDigits() {
      tokenKind = DIGITS;
      tokenValue = 0;
      while (next < length && isDigit(tape[next])) {
        // What is too great stays so: a long row of digits must not come round to a small number.
        tokenValue = Math.min(TOP_PRICE + 1, tokenValue * 10 + tape[next] - '0');
        next++;
      }
    }

    private void scanWord() {
      while (next < length && isLetter(tape[next])) {
        next++;
      }
      int word = wordNumber();
      if (word == NONE) {
        tokenKind = NO_TOKEN;
      } else if (word < WORD_WHEN) {
        tokenKind = SORT_WORD;
        tokenValue = word;
      } else if (word >= WORD_NAMES) {
        tokenKind = NAME_WORD;
        tokenValue = word - WORD_NAMES;
      } else {
        tokenKind = word == WORD_WHEN ? WHEN : word == WORD_OR ? OR : word == WORD_AND ? AND : NOT;
      }
    }

    private int wordNumber() {
      int word = 0;
      int alike = tokenStart;
      boolean same = true;
      for (int i = 0; i < WORDS.length(); i++) {
        char sign = WORDS.charAt(i);
        if (sign == ' ') {
          if (same && alike == next) {
            return word;
          }
          word++;
          alike = tokenStart;
          same = true;
        } else {
          same = same && alike < next && tape[alike] == sign;
          alike++;
        }
      }
      return NONE;
    }

    private void scanSign() {
      tokenKind = signKind(tape[next]);
      next++;
      if ((tokenKind == LESS || tokenKind == MORE) && next < length && tape[next] == '=') {
        tokenKind = tokenKind == LESS ? AT_MOST : AT_LEAST;
        next++;
      }
    }

    private static int signKind(int sign) {
      switch (sign) {
        case '<':
          return LESS;
        case '>':
          return MORE;
        case '=':
          return LIKE;
        case '#':
          return UNLIKE;
        case '+':
          return PLUS;
        case '-':
          return MINUS;
        case '*':
          return TIMES;
        case '/':
          return CUT;
        case '(':
          return OPEN;
        case ')':
          return SHUT;
        case ';':
          return STOP;
        default:
          return NO_TOKEN;
      }
    }
  }

  /** Asks the clauses of a text and keeps what they come to. */
  private static final class Judge {
    private final int[] names = new int[NAMES];
    private final int[] stack = new int[TAPE_BYTES];
    // Of the break that is wanted: its beat, v, w, clause and price.
    private final int[] found = new int[5];
    private int bar = 4;
    private int wanted = NONE;
    private int count = 0;
    private int total = 0;
    private int firstVoice = 0;
    private int secondVoice = NONE;

    void begin(int newBar, int newWanted) {
      bar = Math.max(1, newBar);
      wanted = newWanted;
      count = 0;
      total = 0;
    }

    void askPiece(Rules rules, Line[] voices, int first, int from) {
      if (first < 0 || first + VOICES > voices.length) {
        return;
      }
      boolean pairs = rules.has(PAIR);
      boolean lines = rules.has(LINE);
      for (int t = from; t < BEATS; t++) {
        for (int v = 0; pairs && v < VOICES; v++) {
          for (int w = v + 1; w < VOICES; w++) {
            firstVoice = v;
            secondVoice = w;
            askPair(rules, voices[first + v], voices[first + w], t);
          }
        }
        for (int v = 0; lines && v < VOICES; v++) {
          firstVoice = v;
          secondVoice = NONE;
          askLine(rules, voices[first + v], t);
        }
      }
    }

    /** Prices come to 0 at least: a total above most can't come back, and then nothing more is asked. */
    void askPairs(Rules rules, Line one, Line other, int most) {
      int beats = rules.has(PAIR) ? Math.min(one.beats(), other.beats()) : 0;
      for (int t = 0; t < beats && total <= most; t++) {
        askPair(rules, one, other, t);
      }
    }

    void askLines(Rules rules, Line line, int most) {
      int beats = rules.has(LINE) ? line.beats() : 0;
      for (int t = 0; t < beats && total <= most; t++) {
        askLine(rules, line, t);
      }
    }

    void askPair(Rules rules, Line one, Line other, int t) {
      if (!one.sounds(t) || !other.sounds(t)) {
        return;
      }
      int p = one.pitch[t];
      int q = other.pitch[t];
      boolean oneBegins = one.kind[t] == BEGINS;
      boolean otherBegins = other.kind[t] == BEGINS;
      boolean oneBefore = one.sounds(t - 1);
      boolean otherBefore = other.sounds(t - 1);
      names[GAP] = Math.abs(p - q);
      names[WAS] = oneBefore && otherBefore ? Math.abs(one.pitch[t - 1] - other.pitch[t - 1]) : NONE;
      names[MINE] = oneBegins && oneBefore ? p - one.pitch[t - 1] : 0;
      names[YOURS] = otherBegins && otherBefore ? q - other.pitch[t - 1] : 0;
      names[LOW] = Math.min(p, q);
      names[HIGH] = Math.max(p, q);
      names[CROSS] = p < q ? 1 : 0;
      names[HOLD] = oneBegins || otherBegins ? 0 : 1;
      names[PLACE] = t % bar;
      askClauses(rules, PAIR, t);
    }

    void askLine(Rules rules, Line line, int t) {
      int ahead = line.noteAhead(t);
      if (!line.sounds(t) || line.kind[t] != BEGINS || ahead < 0) {
        return;
      }
      int before = line.noteAhead(ahead);
      names[STEP] = line.pitch[t] - line.pitch[ahead];
      names[LAST] = before < 0 ? 0 : line.pitch[ahead] - line.pitch[before];
      names[PITCH] = line.pitch[t];
      names[REST] = line.restsAhead(t);
      names[PLACE] = t % bar;
      askClauses(rules, LINE, t);
    }

    private void askClauses(Rules rules, int sort, int t) {
      for (int c = 0; c < rules.clauses; c++) {
        if (rules.sort[c] != sort || value(rules.code, rules.condition[c], rules.stop[c]) == 0) {
          continue;
        }
        int price = value(rules.code, rules.start[c], rules.condition[c]);
        price = Math.max(0, Math.min(TOP_PRICE, price));
        if (count == wanted) {
          found[0] = t;
          found[1] = firstVoice;
          found[2] = secondVoice;
          found[3] = c;
          found[4] = price;
        }
        count++;
        total += price;
      }
    }

    /** Whether any clause of a sort, ahead or beside, is so of the pages whose signs are set. */
    boolean asksAny(Rules rules, int sort) {
      boolean any = false;
      for (int c = 0; c < rules.clauses && !any; c++) {
        any = rules.sort[c] == sort && value(rules.code, rules.condition[c], rules.stop[c]) != 0;
      }
      return any;
    }

    void setPages(int[] signs, int page, int other) {
      for (int i = 0; i < PAGE_SIGNS; i++) {
        int plain = page * PAGE_SIGNS + i;
        int behind = other * PAGE_SIGNS + i;
        if (within(plain, 0, signs.length - 1) && within(behind, 0, signs.length - 1)) {
          names[NUMBER + i] = signs[plain];
          names[NUMBER_B + i] = signs[behind];
        }
      }
    }

    /** What a row of code comes to; the later of two operands lies on top. */
    private int value(int[] code, int from, int to) {
      int top = 0;
      for (int i = Math.max(0, from); i < to && i < code.length && top < stack.length; i++) {
        int mark = code[i];
        int operator = mark - CODE_OPERATOR;
        if (mark < CODE_NAME) {
          stack[top] = mark;
          top++;
        } else if (operator < 0) {
          int name = mark - CODE_NAME;
          stack[top] = name < NAMES ? names[name] : 0;
          top++;
        } else if (operator == NOT || operator == NEGATIVE) {
          if (top < 1) {
            return 0;
          }
          stack[top - 1] = operator == NOT ? 1 - stack[top - 1] : -stack[top - 1];
        } else {
          if (top < 2) {
            return 0;
          }
          top--;
          long combined = combine(operator, stack[top - 1], stack[top]);
          stack[top - 1] = combined > BOUND ? BOUND : combined < -BOUND ? -BOUND : (int) combined;
        }
      }
      return top > 0 ? stack[top - 1] : 0;
    }

    private static long combine(int operator, long a, long b) {
      switch (operator) {
        case OR:
          return a | b;
        case AND:
          return a & b;
        case LESS:
          return a < b ? 1 : 0;
        case AT_MOST:
          return a <= b ? 1 : 0;
        case MORE:
          return a > b ? 1 : 0;
        case AT_LEAST:
          return a >= b ? 1 : 0;
        case LIKE:
          return a == b ? 1 : 0;
        case UNLIKE:
          return a != b ? 1 : 0;
        case PLUS:
          return a + b;
        case MINUS:
          return a - b;
        case TIMES:
          return a * b;
        default:
          return b == 0 ? 0 : a / b;
      }
    }
  }

  /** Subjects put together. */
  private static final class Fitter {
    private final Judge judge = new Judge();
    private final Line first = new Line(BEATS);
    private final Line second = new Line(BEATS);
    private final Line third = new Line(BEATS);
    private final Line shuffled = new Line(SUBJECT_BEATS);
    private final int[] changes = new int[SUBJECT_BEATS];
    private final int[] secondPrices = new int[THREE_FORMS];
    private final int[] thirdPrices = new int[THREE_FORMS];
    private int firstPrice = 0;
    private int bestPrice = 0;
    private int bestForm = 0;
    private int bestThird = 0;

    void begin(Rules rules, int bar, Line one) {
      first.takeForm(one, TOP_HEIGHT);
      judge.begin(bar, NONE);
      judge.askLines(rules, first, NO_BOUND);
      firstPrice = judge.total;
    }

    /** The price of a fit; of one above most no more than that it is above it. */
    int priceOf(Rules rules, Line other, int form, int most) {
      second.takeForm(other, form);
      judge.total = firstPrice;
      judge.askLines(rules, second, most);
      judge.askPairs(rules, first, second, most);
      return judge.total;
    }

    /** Finds the first form of the least price, or merely the first whose price is enough or less. */
    void findCheapest(Rules rules, Line other, int enough) {
      bestPrice = NO_BOUND;
      bestForm = 0;
      for (int form = 0; form < FORMS && bestPrice > Math.max(0, enough); form++) {
        int price = priceOf(rules, other, form, bestPrice - 1);
        if (price < bestPrice) {
          bestPrice = price;
          bestForm = form;
        }
      }
    }

    void findThree(Rules rules, Line two, Line other) {
      for (int i = 0; i < THREE_FORMS; i++) {
        secondPrices[i] = priceOf(rules, two, formOfThree(i), NO_BOUND);
        thirdPrices[i] = priceOf(rules, other, formOfThree(i), NO_BOUND) - firstPrice;
      }
      bestPrice = NO_BOUND;
      for (int i = 0; i < THREE_FORMS; i++) {
        second.takeForm(two, formOfThree(i));
        for (int k = 0; k < THREE_FORMS; k++) {
          int apart = secondPrices[i] + thirdPrices[k];
          if (apart >= bestPrice) {
            continue;
          }
          third.takeForm(other, formOfThree(k));
          judge.total = apart;
          judge.askPairs(rules, second, third, bestPrice - 1);
          if (judge.total < bestPrice) {
            bestPrice = judge.total;
            bestForm = formOfThree(i);
            bestThird = formOfThree(k);
          }
        }
      }
    }

    void shuffle(Line subject, int seed) {
      shuffled.take(subject);
      int count = 0;
      for (int t = 0; t < SUBJECT_BEATS; t++) {
        int ahead = subject.noteAhead(t);
        if (subject.kind[t] == BEGINS && ahead >= 0 && count < changes.length) {
          changes[count] = subject.pitch[t] - subject.pitch[ahead];
          count++;
        }
      }
      int x = seed;
      for (int i = count - 1; i >= 1; i--) {
        int k = Math.floorMod(x, i + 1);
        int change = changes[i];
        changes[i] = changes[k];
        changes[k] = change;
        x = (x * 131 + 17) % 30013;
      }
      singChanges(count);
    }

    private void singChanges(int count) {
      int used = 0;
      int pitch = 0;
      boolean begun = false;
      for (int t = 0; t < SUBJECT_BEATS; t++) {
        if (shuffled.kind[t] == BEGINS && !begun) {
          pitch = shuffled.pitch[t];
          begun = true;
        } else if (shuffled.kind[t] == BEGINS && used < count && used < changes.length) {
          pitch += changes[used];
          used++;
        }
        if (shuffled.kind[t] != RESTS) {
          shuffled.pitch[t] = pitch;
        }
      }
    }
  }

  /** Notes made behind a voice's end: the price of each hangs on the two ahead of it alone. */
  private static final class Maker {
    private final Judge judge = new Judge();
    private final Line[] voices = new Line[VOICES];
    // By how many notes are made, then by the two notes ahead: the least price of all that come, and the note it begins with.
    private final int[][] leasts = new int[MADE_NOTES + 1][MADE_PAIRS];
    private final int[][] choices = new int[MADE_NOTES + 1][MADE_PAIRS];
    private final int[] chosen = new int[MADE_NOTES];
    private int voice = 0;
    private int from = 0;
    private int notes = 1;
    private int lowest = 0;
    private int many = 1;
    private int least = 0;

    Maker() {
      for (int v = 0; v < VOICES; v++) {
        voices[v] = new Line(BEATS);
      }
    }

    void begin(State state, int piece, int newVoice, int n) {
      for (int v = 0; v < VOICES; v++) {
        voices[v].take(state.voices[piece * VOICES + v]);
      }
      voice = newVoice;
      notes = n;
      from = voices[voice].beats();
      int last = from < 1 ? 0 : voices[voice].pitch[from - 1];
      lowest = Math.max(0, last - MADE_REACH);
      many = Math.min(TOP_PITCH, last + MADE_REACH) - lowest + 1;
      judge.begin(state.bar, NONE);
    }

    void solve(Rules rules) {
      Arrays.fill(leasts[notes], 0);
      for (int j = notes - 1; j >= 0; j--) {
        solveNote(rules, j);
      }
      least = leasts[0][0];
      int before = 0;
      int ahead = 0;
      for (int j = 0; j < notes; j++) {
        int choice = choices[j][before * MADE_CHOICES + ahead];
        chosen[j] = lowest + choice;
        before = j > 0 ? ahead : 0;
        ahead = choice;
      }
    }

    /** Of the notes ahead of the first made one there is one row alone, told as 0. */
    private void solveNote(Rules rules, int j) {
      Line line = voices[voice];
      int t = from + j;
      Arrays.fill(leasts[j], NO_BOUND);
      for (int ahead = 0; ahead < (j > 0 ? many : 1); ahead++) {
        singAt(j - 1, ahead);
        for (int choice = 0; choice < many; choice++) {
          singAt(j, choice);
          int later = pairPrice(rules, t) + leasts[j + 1][(j > 0 ? ahead : 0) * MADE_CHOICES + choice];
          for (int before = 0; before < (j > 1 ? many : 1); before++) {
            singAt(j - 2, before);
            judge.total = later;
            if (rules.has(LINE)) {
              judge.askLine(rules, line, t);
            }
            int state = before * MADE_CHOICES + ahead;
            if (judge.total < leasts[j][state]) {
              leasts[j][state] = judge.total;
              choices[j][state] = choice;
            }
          }
        }
      }
    }

    private void singAt(int j, int choice) {
      if (j >= 0) {
        voices[voice].sing(from + j, lowest + choice, 1);
      }
    }

    private int pairPrice(Rules rules, int t) {
      judge.total = 0;
      for (int other = 0; other < VOICES; other++) {
        if (other != voice) {
          judge.askPair(rules, voices[Math.min(voice, other)], voices[Math.max(voice, other)], t);
        }
      }
      return judge.total;
    }
  }

  /** What steps a set of pieces has, and which of them follow one that is asked for. */
  private static final class Steps {
    private final int[] seen = new int[STEPS];
    private final int[] behind = new int[STEPS];
    private int seenAll = 0;
    private int behindAll = 0;

    void clear() {
      Arrays.fill(seen, 0);
      Arrays.fill(behind, 0);
      seenAll = 0;
      behindAll = 0;
    }

    void add(Line line, int behindStep) {
      int lastStep = NO_STEP;
      int lastNote = NONE;
      for (int t = 0; t < line.kind.length; t++) {
        if (line.kind[t] != BEGINS) {
          continue;
        }
        if (lastNote >= 0) {
          int step = boundedStep(line.pitch[t] - line.pitch[lastNote]);
          seen[step + TOP_STEP]++;
          seenAll++;
          if (lastStep == behindStep) {
            behind[step + TOP_STEP]++;
            behindAll++;
          }
          lastStep = step;
        }
        lastNote = t;
      }
    }

    int strangeBy(Steps others) {
      int most = 0;
      for (int s = 0; s < STEPS; s++) {
        most = Math.max(most, others.seen[s]);
      }
      if (seenAll < 1 || most < 1) {
        return NONE;
      }
      int sum = 0;
      for (int s = 0; s < STEPS; s++) {
        sum += seen[s] * (1000 - 1000 * others.seen[s] / most);
      }
      return sum / seenAll;
    }

    int distanceTo(Steps others) {
      if (seenAll < 1 || others.seenAll < 1) {
        return NONE;
      }
      int distance = 0;
      for (int s = 0; s < STEPS; s++) {
        distance += Math.abs(1000 * seen[s] / seenAll - 1000 * others.seen[s] / others.seenAll);
      }
      return distance;
    }
  }

  /** Pages in all orders that a text lets. */
  private static final class Binder {
    private final Judge judge = new Judge();
    // Of each page, as bits: those that must lie ahead of it, those that must lie beside it.
    private final int[] ahead = new int[PAGES];
    private final int[] beside = new int[PAGES];
    // By the set of the pages that lie already and the last of them: in how many orders they can.
    private final int[] ways = new int[(1 << PAGES) * PAGES];

    void link(Rules rules, State state) {
      Arrays.fill(ahead, 0);
      Arrays.fill(beside, 0);
      for (int x = 0; x < state.pages && x < PAGES; x++) {
        for (int y = 0; y < state.pages && y < PAGES; y++) {
          if (x == y) {
            continue;
          }
          judge.setPages(state.pageSigns, x, y);
          if (judge.asksAny(rules, AHEAD)) {
            ahead[y] |= 1 << x;
          }
          if (judge.asksAny(rules, BESIDE)) {
            beside[x] |= 1 << y;
            beside[y] |= 1 << x;
          }
        }
      }
    }

    /** In how many orders a page is at a place; in how many there are, if the place is NONE. */
    int count(int pages, int page, int place) {
      if (!within(pages, 1, PAGES)) {
        return 1;
      }
      int all = (1 << pages) - 1;
      int sum = 0;
      for (int set = 1; set <= all; set++) {
        boolean atPlace = Integer.bitCount(set) - 1 == place;
        for (int last = 0; last < pages; last++) {
          boolean can = (set >> last & 1) == 1 && (!atPlace || last == page);
          ways[set * PAGES + last] = can ? waysTo(pages, set & ~(1 << last), last) : 0;
          sum += set == all ? ways[set * PAGES + last] : 0;
        }
      }
      return sum;
    }

    /** Only the page just ahead can lie beside the new one, so no other of the set may have to. */
    private int waysTo(int pages, int set, int last) {
      if ((ahead[last] & ~set) != 0) {
        return 0;
      }
      if (set == 0) {
        return 1;
      }
      int sum = 0;
      for (int before = 0; before < pages; before++) {
        if ((set >> before & 1) == 1 && (beside[last] & set & ~(1 << before)) == 0) {
          sum += ways[set * PAGES + before];
        }
      }
      return sum;
    }
  }
}
