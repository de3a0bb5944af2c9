import java.util.ArrayList;
import java.util.Arrays;
import java.util.HashMap;
import java.util.List;
import java.util.Map;
import java.util.function.ToLongFunction;

/**
 * The document once more, written as slowly and plainly as can be and on other ways than the class: a text is parsed
 * by descent, orders are tried one by one, made notes are tried one by one. RandomRunsTest sets both beside each other.
 */
final class Reference {
  private static final int NONE = -1;

  private static final class Sound {
    final int pitch;
    final boolean begins;

    Sound(int pitch, boolean begins) {
      this.pitch = pitch;
      this.begins = begins;
    }
  }

  private static final class Clause {
    String sort;
    ToLongFunction<Map<String, Integer>> price;
    ToLongFunction<Map<String, Integer>> asks;
  }

  private static final class Text {
    final List<Clause> clauses = new ArrayList<>();
    int weight = 1;

    Text twin() {
      Text text = new Text();
      text.clauses.addAll(clauses);
      text.weight = weight;
      return text;
    }
  }

  private static final class Refusal extends RuntimeException {
    private static final long serialVersionUID = 1L;
    final int fault;
    final int place;

    Refusal(int fault, int place) {
      this.fault = fault;
      this.place = place;
    }
  }

  private static final class All {
    Sound[][][] pieces = new Sound[4][4][32];
    Sound[][] subjects = new Sound[6][12];
    int bar = 4;
    int[] hands = {NONE, NONE, NONE, NONE};
    List<Text> texts = new ArrayList<>();
    List<int[]> shapes = new ArrayList<>();
    List<int[]> pages = new ArrayList<>();

    All twin() {
      All all = new All();
      for (int p = 0; p < 4; p++) {
        for (int v = 0; v < 4; v++) {
          all.pieces[p][v] = pieces[p][v].clone();
        }
      }
      for (int s = 0; s < 6; s++) {
        all.subjects[s] = subjects[s].clone();
      }
      all.bar = bar;
      all.hands = hands.clone();
      for (Text text : texts) {
        all.texts.add(text.twin());
      }
      all.shapes.addAll(shapes);
      all.pages.addAll(pages);
      return all;
    }
  }

  private All now = new All();
  private All image = new All();
  private String tape = "";
  private int[] latest = null;

  // ---- pieces and subjects

  private static void write(Sound[] row, int beat, Integer pitch, int length) {
    for (int t = beat; t < beat + length; t++) {
      row[t] = pitch == null ? null : new Sound(pitch, t == beat);
    }
    int next = beat + length;
    if (next < row.length && row[next] != null && !row[next].begins) {
      row[next] = new Sound(row[next].pitch, true);
    }
  }

  private static int beats(Sound[] row) {
    int beats = 0;
    for (int t = 0; t < row.length; t++) {
      if (row[t] != null) {
        beats = t + 1;
      }
    }
    return beats;
  }

  private int length(int piece) {
    return Arrays.stream(now.pieces[piece]).mapToInt(Reference::beats).max().getAsInt();
  }

  int note(int piece, int voice, int beat, int pitch, int length) {
    if (piece < 0 || piece > 3 || voice < 0 || voice > 3 || beat < 0 || beat > 31 || pitch < -1 || pitch > 60
        || length < 1 || length > 8 || beat + length > 32) {
      return NONE;
    }
    write(now.pieces[piece][voice], beat, pitch == NONE ? null : (Integer) pitch, length);
    return length(piece);
  }

  int at(int piece, int voice, int beat) {
    if (piece < 0 || piece > 3 || voice < 0 || voice > 3 || beat < 0 || beat > 31) {
      return NONE;
    }
    Sound sound = now.pieces[piece][voice][beat];
    return sound == null ? NONE : sound.begins ? sound.pitch : 100 + sound.pitch;
  }

  int subject(int subject, int beat, int pitch, int length) {
    boolean rests = pitch == -100;
    if (subject < 0 || subject > 5 || beat < 0 || beat > 11 || !rests && (pitch < -20 || pitch > 20)
        || length < 1 || length > 4 || beat + length > 12) {
      return NONE;
    }
    write(now.subjects[subject], beat, rests ? null : (Integer) pitch, length);
    return beats(now.subjects[subject]);
  }

  boolean bar(int beats) {
    if (beats < 1 || beats > 12) {
      return false;
    }
    now.bar = beats;
    return true;
  }

  boolean copy(int from, int to) {
    if (from < 0 || from > 3 || to < 0 || to > 3) {
      return false;
    }
    for (int v = 0; v < 4; v++) {
      now.pieces[to][v] = now.pieces[from][v].clone();
    }
    return true;
  }

  // ---- texts

  int feed(int a, int b, int c, int d, int e) {
    if (tape.length() + 20 > 300) {
      return NONE;
    }
    for (int four : new int[] {a, b, c, d, e}) {
      tape += "" + (char) (four >>> 24) + (char) (four >> 16 & 255) + (char) (four >> 8 & 255) + (char) (four & 255);
    }
    return tape.length();
  }

  int end(int n) {
    if (n < 0 || n > tape.length()) {
      return NONE;
    }
    tape = tape.substring(0, n);
    return n;
  }

  int text() {
    if (now.texts.size() == 6) {
      return NONE;
    }
    String read = tape;
    tape = "";
    try {
      now.texts.add(new Parser(read).text());
      latest = new int[] {0, NONE};
      return now.texts.size() - 1;
    } catch (Refusal refusal) {
      latest = new int[] {refusal.fault, refusal.place};
      return NONE;
    }
  }

  int fault(int what) {
    return latest == null || what < 0 || what > 1 ? NONE : latest[what];
  }

  private static long bound(long x) {
    return x > 1000000 ? 1000000 : x < -1000000 ? -1000000 : x;
  }

  private static final class Parser {
    private static final List<String> PAIR =
        List.of("gap", "was", "mine", "yours", "low", "high", "cross", "hold", "place");
    private static final List<String> LINE = List.of("step", "last", "pitch", "rest", "place");
    private static final List<String> PAGES =
        List.of("number", "ruling", "ink", "size", "numberb", "rulingb", "inkb", "sizeb");

    private final String text;
    private final List<String> tokens = new ArrayList<>();
    private final List<Integer> places = new ArrayList<>();
    private int i = 0;
    private List<String> names = PAIR;

    Parser(String text) {
      this.text = text;
      java.util.regex.Matcher matcher = java.util.regex.Pattern
          .compile("[ \\n]+|([a-zA-Z]+|[0-9]+|<=|>=|[\\s\\S])").matcher(text);
      while (matcher.find()) {
        if (matcher.group(1) != null) {
          tokens.add(matcher.group(1));
          places.add(matcher.start());
        }
      }
      tokens.add("");
      places.add(text.length());
    }

    private Refusal refusal(int fault) {
      return new Refusal(fault, places.get(i));
    }

    private boolean sees(String... some) {
      return List.of(some).contains(tokens.get(i));
    }

    private void need(String token) {
      if (!sees(token)) {
        throw refusal(1);
      }
      i++;
    }

    Text text() {
      Text made = new Text();
      while (!sees("")) {
        if (!sees("pair", "line", "ahead", "beside")) {
          throw refusal(1);
        }
        if (made.clauses.size() == 10) {
          throw refusal(5);
        }
        Clause clause = new Clause();
        clause.sort = tokens.get(i++);
        boolean prices = clause.sort.equals("pair") || clause.sort.equals("line");
        names = clause.sort.equals("pair") ? PAIR : clause.sort.equals("line") ? LINE : PAGES;
        if (prices) {
          clause.price = sum(0);
          need("when");
        }
        clause.asks = either();
        need(";");
        made.clauses.add(clause);
      }
      return made;
    }

    private ToLongFunction<Map<String, Integer>> either() {
      ToLongFunction<Map<String, Integer>> left = both();
      while (sees("or")) {
        i++;
        ToLongFunction<Map<String, Integer>> a = left;
        ToLongFunction<Map<String, Integer>> b = both();
        left = env -> Math.max(a.applyAsLong(env), b.applyAsLong(env));
      }
      return left;
    }

    private ToLongFunction<Map<String, Integer>> both() {
      ToLongFunction<Map<String, Integer>> left = ask(0);
      while (sees("and")) {
        i++;
        ToLongFunction<Map<String, Integer>> a = left;
        ToLongFunction<Map<String, Integer>> b = ask(0);
        left = env -> Math.min(a.applyAsLong(env), b.applyAsLong(env));
      }
      return left;
    }

    private int deeper(int depth) {
      if (depth == 8) {
        throw refusal(3);
      }
      i++;
      return depth + 1;
    }

    private ToLongFunction<Map<String, Integer>> ask(int depth) {
      if (sees("not")) {
        ToLongFunction<Map<String, Integer>> a = ask(deeper(depth));
        return env -> a.applyAsLong(env) == 0 ? 1 : 0;
      }
      ToLongFunction<Map<String, Integer>> a = sum(depth);
      if (!sees("<", "<=", ">", ">=", "=", "#")) {
        throw refusal(1);
      }
      String sign = tokens.get(i++);
      ToLongFunction<Map<String, Integer>> b = sum(depth);
      return env -> {
        int order = Long.compare(a.applyAsLong(env), b.applyAsLong(env));
        return switch (sign) {
          case "<" -> order < 0;
          case "<=" -> order <= 0;
          case ">" -> order > 0;
          case ">=" -> order >= 0;
          case "=" -> order == 0;
          default -> order != 0;
        } ? 1 : 0;
      };
    }

    private ToLongFunction<Map<String, Integer>> sum(int depth) {
      ToLongFunction<Map<String, Integer>> left = product(depth);
      while (sees("+", "-")) {
        int sign = tokens.get(i++).equals("+") ? 1 : -1;
        ToLongFunction<Map<String, Integer>> a = left;
        ToLongFunction<Map<String, Integer>> b = product(depth);
        left = env -> bound(a.applyAsLong(env) + sign * b.applyAsLong(env));
      }
      return left;
    }

    private ToLongFunction<Map<String, Integer>> product(int depth) {
      ToLongFunction<Map<String, Integer>> left = one(depth);
      while (sees("*", "/")) {
        boolean times = tokens.get(i++).equals("*");
        ToLongFunction<Map<String, Integer>> a = left;
        ToLongFunction<Map<String, Integer>> b = one(depth);
        left = env -> {
          long x = a.applyAsLong(env);
          long y = b.applyAsLong(env);
          return times ? bound(x * y) : y == 0 ? 0 : x / y;
        };
      }
      return left;
    }

    private ToLongFunction<Map<String, Integer>> one(int depth) {
      String token = tokens.get(i);
      if (token.matches("[0-9]+")) {
        if (new java.math.BigInteger(token).compareTo(java.math.BigInteger.valueOf(999)) > 0) {
          throw refusal(2);
        }
        i++;
        long number = Long.parseLong(token);
        return env -> number;
      }
      if (sees("(")) {
        ToLongFunction<Map<String, Integer>> a = sum(deeper(depth));
        need(")");
        return a;
      }
      if (sees("-")) {
        ToLongFunction<Map<String, Integer>> a = one(deeper(depth));
        return env -> -a.applyAsLong(env);
      }
      if (names.contains(token)) {
        i++;
        return env -> env.get(token);
      }
      throw refusal(PAIR.contains(token) || LINE.contains(token) || PAGES.contains(token) ? 4 : 1);
    }
  }

  // ---- breaks

  private boolean isText(int text) {
    return text >= 0 && text < now.texts.size();
  }

  private static Sound get(Sound[] row, int t) {
    return t < 0 || t >= row.length ? null : row[t];
  }

  private static List<Integer> beginnings(Sound[] row, int before) {
    List<Integer> beginnings = new ArrayList<>();
    for (int t = 0; t < before && t < row.length; t++) {
      if (row[t] != null && row[t].begins) {
        beginnings.add(t);
      }
    }
    return beginnings;
  }

  private Map<String, Integer> pairNames(Sound[] one, Sound[] other, int t) {
    Sound p = get(one, t);
    Sound q = get(other, t);
    if (p == null || q == null) {
      return null;
    }
    Sound wasP = get(one, t - 1);
    Sound wasQ = get(other, t - 1);
    Map<String, Integer> names = new HashMap<>();
    names.put("gap", Math.abs(p.pitch - q.pitch));
    names.put("was", wasP == null || wasQ == null ? -1 : Math.abs(wasP.pitch - wasQ.pitch));
    names.put("mine", p.begins && wasP != null ? p.pitch - wasP.pitch : 0);
    names.put("yours", q.begins && wasQ != null ? q.pitch - wasQ.pitch : 0);
    names.put("low", Math.min(p.pitch, q.pitch));
    names.put("high", Math.max(p.pitch, q.pitch));
    names.put("cross", p.pitch < q.pitch ? 1 : 0);
    names.put("hold", !p.begins && !q.begins ? 1 : 0);
    names.put("place", t % now.bar);
    return names;
  }

  private Map<String, Integer> lineNames(Sound[] row, int t) {
    List<Integer> ahead = beginnings(row, t);
    if (get(row, t) == null || !row[t].begins || ahead.isEmpty()) {
      return null;
    }
    int note = row[ahead.get(ahead.size() - 1)].pitch;
    Map<String, Integer> names = new HashMap<>();
    names.put("step", row[t].pitch - note);
    names.put("last", ahead.size() < 2 ? 0 : note - row[ahead.get(ahead.size() - 2)].pitch);
    names.put("pitch", row[t].pitch);
    int rest = 0;
    while (row[t - 1 - rest] == null) {
      rest++;
    }
    names.put("rest", rest);
    names.put("place", t % now.bar);
    return names;
  }

  private void ask(Text text, String sort, Map<String, Integer> names, int[] where, List<int[]> breaks) {
    for (int c = 0; names != null && c < text.clauses.size(); c++) {
      Clause clause = text.clauses.get(c);
      if (clause.sort.equals(sort) && clause.asks.applyAsLong(names) != 0) {
        long price = Math.min(999, Math.max(0, clause.price.applyAsLong(names)));
        breaks.add(new int[] {where[0], where[1], where[2], c, (int) price});
      }
    }
  }

  private List<int[]> breaks(Text text, Sound[][] voices) {
    List<int[]> breaks = new ArrayList<>();
    int beats = Arrays.stream(voices).mapToInt(row -> row.length).max().getAsInt();
    for (int t = 0; t < beats; t++) {
      for (int v = 0; v < voices.length; v++) {
        for (int w = v + 1; w < voices.length; w++) {
          ask(text, "pair", pairNames(voices[v], voices[w], t), new int[] {t, v, w}, breaks);
        }
      }
      for (int v = 0; v < voices.length; v++) {
        ask(text, "line", lineNames(voices[v], t), new int[] {t, v, NONE}, breaks);
      }
    }
    return breaks;
  }

  private static int sum(List<int[]> breaks) {
    return breaks.stream().mapToInt(b -> b[4]).sum();
  }

  int price(int text, int piece) {
    if (!isText(text) || piece < 0 || piece > 3) {
      return NONE;
    }
    return sum(breaks(now.texts.get(text), now.pieces[piece]));
  }

  int breaks(int text, int piece, int i, int what) {
    if (!isText(text) || piece < 0 || piece > 3) {
      return NONE;
    }
    List<int[]> breaks = breaks(now.texts.get(text), now.pieces[piece]);
    if (i == NONE) {
      return breaks.size();
    }
    return i < 0 || i >= breaks.size() || what < 0 || what > 4 ? NONE : breaks.get(i)[what];
  }

  // ---- subjects together

  private static final class Form {
    final int h;
    final int d;
    final boolean turned;
    final int m;

    Form(int h, int d, boolean turned, int m) {
      this.h = h;
      this.d = d;
      this.turned = turned;
      this.m = m;
    }

    int code() {
      return 10000 * (m - 1) + (turned ? 5000 : 0) + 100 * d + h + 12;
    }

    Sound[] of(Sound[] subject) {
      Sound[] row = new Sound[32];
      for (int b = 0; b < 12; b++) {
        if (subject[b] != null) {
          int pitch = turned ? 30 + h - subject[b].pitch : 30 + h + subject[b].pitch;
          for (int s = 0; s < m; s++) {
            row[d + m * b + s] = new Sound(pitch, s == 0 && subject[b].begins);
          }
        }
      }
      return row;
    }
  }

  private static List<Form> forms(int highest, int latest, int longest) {
    List<Form> forms = new ArrayList<>();
    for (int m = 1; m <= longest; m++) {
      for (int turned = 0; turned < 2; turned++) {
        for (int d = 0; d <= latest; d++) {
          for (int h = -highest; h <= highest; h++) {
            forms.add(new Form(h, d, turned == 1, m));
          }
        }
      }
    }
    return forms;
  }

  private boolean noNotes(int subject) {
    return subject < 0 || subject > 5 || beats(now.subjects[subject]) == 0;
  }

  private static final Form PLAIN = new Form(0, 0, false, 1);

  private int fitPrice(int text, int one, Sound[] other, Form form) {
    return sum(breaks(now.texts.get(text), new Sound[][] {PLAIN.of(now.subjects[one]), form.of(other)}));
  }

  int fit(int text, int one, int other, int h, int d, boolean turned, int m) {
    if (!isText(text) || noNotes(one) || noNotes(other) || h < -12 || h > 12 || d < 0 || d > 8 || m < 1 || m > 2) {
      return NONE;
    }
    return fitPrice(text, one, now.subjects[other], new Form(h, d, turned, m));
  }

  int fits(int text, int one, int other, int limit, int i) {
    if (!isText(text) || noNotes(one) || noNotes(other) || limit < 0 || limit > 1000000 || i < NONE) {
      return NONE;
    }
    List<Form> fits = new ArrayList<>();
    for (Form form : forms(12, 8, 2)) {
      if (fitPrice(text, one, now.subjects[other], form) <= limit) {
        fits.add(form);
      }
    }
    return i == NONE ? fits.size() : i < fits.size() ? fits.get(i).code() : NONE;
  }

  int cheapest(int text, int one, int other, int what) {
    if (!isText(text) || noNotes(one) || noNotes(other) || what < 0 || what > 1) {
      return NONE;
    }
    int best = Integer.MAX_VALUE;
    int code = NONE;
    for (Form form : forms(12, 8, 2)) {
      int price = fitPrice(text, one, now.subjects[other], form);
      if (price < best) {
        best = price;
        code = form.code();
      }
    }
    return what == 0 ? best : code;
  }

  int three(int text, int one, int two, int third, int what) {
    if (!isText(text) || noNotes(one) || noNotes(two) || noNotes(third) || one == two || one == third || two == third
        || what < 0 || what > 2) {
      return NONE;
    }
    int[] best = {Integer.MAX_VALUE, 0, 0};
    for (Form second : forms(5, 3, 1)) {
      for (Form last : forms(5, 3, 1)) {
        Sound[][] voices = {PLAIN.of(now.subjects[one]), second.of(now.subjects[two]), last.of(now.subjects[third])};
        int price = sum(breaks(now.texts.get(text), voices));
        if (price < best[0]) {
          best = new int[] {price, second.code(), last.code()};
        }
      }
    }
    return best[what];
  }

  int chance(int text, int one, int other, int limit, int n, int seed) {
    if (!isText(text) || noNotes(one) || noNotes(other) || limit < 0 || limit > 1000000 || n < 1 || n > 40 || seed < 0
        || seed > 9999) {
      return NONE;
    }
    int odds = 0;
    for (int number = 0; number < n; number++) {
      Sound[] made = shuffled(now.subjects[other], seed + 1000L * number);
      for (Form form : forms(12, 8, 2)) {
        if (fitPrice(text, one, made, form) <= limit) {
          odds++;
          break;
        }
      }
    }
    return odds;
  }

  private static Sound[] shuffled(Sound[] subject, long x) {
    List<Integer> beginnings = beginnings(subject, 12);
    List<Integer> changes = new ArrayList<>();
    for (int k = 1; k < beginnings.size(); k++) {
      changes.add(subject[beginnings.get(k)].pitch - subject[beginnings.get(k - 1)].pitch);
    }
    for (int i = changes.size() - 1; i >= 1; i--) {
      java.util.Collections.swap(changes, i, (int) (x % (i + 1)));
      x = (x * 131 + 17) % 30013;
    }
    Sound[] made = new Sound[12];
    int pitch = subject[beginnings.get(0)].pitch;
    for (int t = beginnings.get(0); t < 12; t++) {
      if (subject[t] != null) {
        if (subject[t].begins && t > beginnings.get(0)) {
          pitch += changes.remove(0);
        }
        made[t] = new Sound(pitch, subject[t].begins);
      }
    }
    return made;
  }

  // ---- what is learnt

  private static int bounded(int step) {
    return step > 12 ? 12 : step < -12 ? -12 : step;
  }

  private List<Integer> stepsOf(Sound[] row) {
    List<Integer> beginnings = beginnings(row, 32);
    List<Integer> steps = new ArrayList<>();
    for (int k = 1; k < beginnings.size(); k++) {
      steps.add(bounded(row[beginnings.get(k)].pitch - row[beginnings.get(k - 1)].pitch));
    }
    return steps;
  }

  private List<List<Integer>> rowsOf(int set) {
    List<List<Integer>> rows = new ArrayList<>();
    for (int p = 0; p < 4; p++) {
      for (int v = 0; (set & 1 << p) != 0 && v < 4; v++) {
        rows.add(stepsOf(now.pieces[p][v]));
      }
    }
    return rows;
  }

  private int count(int set, int step) {
    return (int) rowsOf(set).stream().flatMap(List::stream).filter(s -> s == step).count();
  }

  private int all(int set) {
    return (int) rowsOf(set).stream().mapToLong(List::size).sum();
  }

  private static boolean isSet(int set) {
    return set >= 0 && set <= 15;
  }

  int seen(int set, int step) {
    return !isSet(set) || step < -12 || step > 12 ? NONE : count(set, step);
  }

  int strange(int set, int piece) {
    if (!isSet(set) || piece < 0 || piece > 3) {
      return NONE;
    }
    int others = set & ~(1 << piece);
    if (all(1 << piece) == 0 || all(others) == 0) {
      return NONE;
    }
    int most = 0;
    for (int s = -12; s <= 12; s++) {
      most = Math.max(most, count(others, s));
    }
    int sum = 0;
    for (List<Integer> row : rowsOf(1 << piece)) {
      for (int step : row) {
        sum += 1000 - 1000 * count(others, step) / most;
      }
    }
    return sum / all(1 << piece);
  }

  int follows(int set, int piece, int voice, int pitch) {
    if (!isSet(set) || piece < 0 || piece > 3 || voice < 0 || voice > 3 || pitch < 0 || pitch > 60) {
      return NONE;
    }
    Sound[] row = now.pieces[piece][voice];
    List<Integer> own = stepsOf(row);
    if (own.isEmpty()) {
      return NONE;
    }
    int step = own.get(own.size() - 1);
    int coming = bounded(pitch - row[beats(row) - 1].pitch);
    int all = 0;
    int such = 0;
    for (List<Integer> steps : rowsOf(set)) {
      for (int k = 1; k < steps.size(); k++) {
        if (steps.get(k - 1) == step) {
          all++;
          such += steps.get(k) == coming ? 1 : 0;
        }
      }
    }
    return all == 0 ? NONE : 1000 * such / all;
  }

  int never(int set, int piece, int voice) {
    if (!isSet(set) || piece < 0 || piece > 3 || voice < 0 || voice > 3) {
      return NONE;
    }
    Sound[] row = now.pieces[piece][voice];
    if (beats(row) == 0) {
      return NONE;
    }
    int never = 0;
    for (int pitch = 0; pitch <= 60; pitch++) {
      never += count(set, bounded(pitch - row[beats(row) - 1].pitch)) == 0 ? 1 : 0;
    }
    return never;
  }

  boolean hand(int piece, int hand) {
    if (piece < 0 || piece > 3 || hand < -1 || hand > 3) {
      return false;
    }
    now.hands[piece] = hand;
    return true;
  }

  int apart(int one, int other) {
    if (!isSet(one) || !isSet(other) || all(one) == 0 || all(other) == 0) {
      return NONE;
    }
    int apart = 0;
    for (int s = -12; s <= 12; s++) {
      apart += Math.abs(1000 * count(one, s) / all(one) - 1000 * count(other, s) / all(other));
    }
    return apart;
  }

  int whose(int piece, int what) {
    if (piece < 0 || piece > 3 || what < 0 || what > 1) {
      return NONE;
    }
    int[] best = {NONE, NONE};
    for (int hand = 0; hand < 4; hand++) {
      int set = 0;
      for (int p = 0; p < 4; p++) {
        set += p != piece && now.hands[p] == hand ? 1 << p : 0;
      }
      int apart = apart(1 << piece, set);
      if (apart >= 0 && (best[0] == NONE || apart < best[1])) {
        best = new int[] {hand, apart};
      }
    }
    return best[what];
  }

  // ---- endings

  private boolean isEnding(int piece, int other, int k) {
    boolean like = piece != other;
    for (int v = 0; v < 4; v++) {
      for (int t = 0; t < k; t++) {
        like = like && at(piece, v, t) == at(other, v, t);
      }
    }
    return like;
  }

  private int worth(int text, int set, int piece, int k) {
    int worth = 0;
    for (int[] one : breaks(now.texts.get(text), now.pieces[piece])) {
      worth += one[0] >= k ? one[4] : 0;
    }
    return worth + Math.max(0, strange(set, piece));
  }

  int endings(int text, int set, int piece, int k, int what) {
    if (!isText(text) || !isSet(set) || piece < 0 || piece > 3 || k < 0 || k > 31) {
      return NONE;
    }
    int count = 0;
    int best = NONE;
    for (int p = 0; p < 4; p++) {
      if (isEnding(piece, p, k)) {
        count++;
        if (best == NONE || worth(text, set, p, k) < worth(text, set, best, k)) {
          best = p;
        }
      }
    }
    if (what == 0 || what == 1) {
      return what == 0 ? count : best;
    }
    return what >= 10 && what <= 13 && isEnding(piece, what - 10, k) ? worth(text, set, what - 10, k) : NONE;
  }

  int made(int text, int piece, int voice, int n, int i) {
    if (!isText(text) || piece < 0 || piece > 3 || voice < 0 || voice > 3 || n < 1 || n > 5 || i < -1 || i >= n) {
      return NONE;
    }
    Sound[][] voices = new Sound[4][];
    for (int v = 0; v < 4; v++) {
      voices[v] = now.pieces[piece][v].clone();
    }
    int from = beats(voices[voice]);
    if (from == 0 || from + n > 32) {
      return NONE;
    }
    int[] best = new int[n + 1];
    best[n] = Integer.MAX_VALUE;
    tryAll(now.texts.get(text), voices, voice, from, 0, 0, new int[n], best);
    return i == NONE ? best[n] : best[i];
  }

  private void tryAll(Text text, Sound[][] voices, int voice, int from, int j, int price, int[] tried, int[] best) {
    if (j == tried.length) {
      if (price < best[j]) {
        System.arraycopy(tried, 0, best, 0, j);
        best[j] = price;
      }
      return;
    }
    int last = voices[voice][from - 1].pitch;
    for (int pitch = Math.max(0, last - 7); pitch <= Math.min(60, last + 7); pitch++) {
      int t = from + j;
      voices[voice][t] = new Sound(pitch, true);
      tried[j] = pitch;
      List<int[]> breaks = new ArrayList<>();
      for (int v = 0; v < 4; v++) {
        for (int w = v + 1; w < 4; w++) {
          if (v == voice || w == voice) {
            ask(text, "pair", pairNames(voices[v], voices[w], t), new int[] {t, v, w}, breaks);
          }
        }
      }
      ask(text, "line", lineNames(voices[voice], t), new int[] {t, voice, NONE}, breaks);
      tryAll(text, voices, voice, from, j + 1, price + sum(breaks), tried, best);
    }
    voices[voice][from + j] = null;
  }

  int head(int text, int piece, int c, int what) {
    if (!isText(text) || piece < 0 || piece > 3 || c < 0 || c > 120 || what < 0 || what > 1) {
      return NONE;
    }
    Sound[][] voices = new Sound[4][32];
    boolean can = true;
    for (int v = 0; v < 4; v++) {
      for (int t = 0; t < 32; t++) {
        Sound sound = now.pieces[piece][v][t];
        if (sound != null) {
          voices[3 - v][t] = new Sound(c - sound.pitch, sound.begins);
          can = can && c - sound.pitch >= 0 && c - sound.pitch <= 60;
        }
      }
    }
    return what == 0 ? can ? 1 : 0 : can ? sum(breaks(now.texts.get(text), voices)) : NONE;
  }

  // ---- shapes, pages, stories

  int shape(int part, int whole) {
    if (part < 1 || whole < 1 || part > 9999 || whole > 9999 || part > whole || now.shapes.size() == 10) {
      return NONE;
    }
    now.shapes.add(new int[] {part, whole});
    return now.shapes.size();
  }

  int lasts(int piece, boolean most) {
    if (piece < 0 || piece > 3 || now.shapes.isEmpty()) {
      return NONE;
    }
    java.util.IntSummaryStatistics all =
        now.shapes.stream().mapToInt(shape -> length(piece) * shape[1] / shape[0]).summaryStatistics();
    return most ? all.getMax() : all.getMin();
  }

  int page(int number, int ruling, int ink, int size) {
    if (number < 0 || number > 99 || ruling < 0 || ruling > 9 || ink < 0 || ink > 9 || size < 0 || size > 9
        || now.pages.size() == 8) {
      return NONE;
    }
    now.pages.add(new int[] {number, ruling, ink, size});
    return now.pages.size() - 1;
  }

  private boolean[][] links(int text, String sort) {
    int n = now.pages.size();
    boolean[][] links = new boolean[n][n];
    for (int x = 0; x < n; x++) {
      for (int y = 0; y < n; y++) {
        Map<String, Integer> names = new HashMap<>();
        String[] plain = {"number", "ruling", "ink", "size"};
        for (int k = 0; k < 4; k++) {
          names.put(plain[k], now.pages.get(x)[k]);
          names.put(plain[k] + "b", now.pages.get(y)[k]);
        }
        for (Clause clause : now.texts.get(text).clauses) {
          links[x][y] |= x != y && clause.sort.equals(sort) && clause.asks.applyAsLong(names) != 0;
        }
      }
    }
    return links;
  }

  private List<int[]> ordersOf(int text) {
    List<int[]> orders = new ArrayList<>();
    permute(new int[now.pages.size()], 0, links(text, "ahead"), links(text, "beside"), orders);
    return orders;
  }

  /** order[p] is the place of the page p. */
  private void permute(int[] order, int page, boolean[][] ahead, boolean[][] beside, List<int[]> orders) {
    if (page == order.length) {
      for (int x = 0; x < page; x++) {
        for (int y = 0; y < page; y++) {
          if (ahead[x][y] && order[x] > order[y] || beside[x][y] && Math.abs(order[x] - order[y]) != 1) {
            return;
          }
        }
      }
      orders.add(order.clone());
      return;
    }
    for (int place = 0; place < order.length; place++) {
      boolean free = true;
      for (int x = 0; x < page; x++) {
        free = free && order[x] != place;
      }
      if (free) {
        order[page] = place;
        permute(order, page + 1, ahead, beside, orders);
      }
    }
  }

  int orders(int text) {
    return isText(text) ? ordersOf(text).size() : NONE;
  }

  int where(int text, int page, int place) {
    int n = now.pages.size();
    if (!isText(text) || page < 0 || page >= n || place < 0 || place >= n) {
      return NONE;
    }
    return (int) ordersOf(text).stream().filter(order -> order[page] == place).count();
  }

  boolean weight(int text, int v) {
    if (!isText(text) || v < 0 || v > 9) {
      return false;
    }
    now.texts.get(text).weight = v;
    return true;
  }

  int story(int set, int text) {
    if (set < 0 || set >= 1 << now.texts.size() || !isText(text) || (set & 1 << text) == 0) {
      return NONE;
    }
    long all = 0;
    for (int i = 0; i < now.texts.size(); i++) {
      all += (set & 1 << i) == 0 ? 0 : (long) now.texts.get(i).weight * orders(i);
    }
    return all == 0 ? NONE : (int) (1000L * now.texts.get(text).weight * orders(text) / all);
  }

  // ---- the image

  int image() {
    image = now.twin();
    return now.texts.size();
  }

  int back() {
    now = image.twin();
    return now.texts.size();
  }

  int about(int what) {
    if (what >= 10 && what <= 13) {
      return length(what - 10);
    }
    if (what >= 20 && what <= 23) {
      return now.hands[what - 20];
    }
    if (what >= 30 && what <= 35) {
      return beats(now.subjects[what - 30]);
    }
    if (what >= 40 && what < 40 + now.texts.size()) {
      return now.texts.get(what - 40).weight;
    }
    return switch (what) {
      case 0 -> now.bar;
      case 1 -> now.texts.size();
      case 2 -> now.pages.size();
      case 3 -> now.shapes.size();
      case 4 -> tape.length();
      default -> -2;
    };
  }
}
