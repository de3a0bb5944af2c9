/** Short ways to set up an object for a test. */
abstract class SetUp {
  /** Lays a text on the tape, whatever lay there. */
  static void lay(BrokenFugue x, String text) {
    x.end(0);
    for (int from = 0; from < text.length(); from += 20) {
      int[] fours = new int[5];
      for (int i = 0; i < 20; i++) {
        int at = from + i;
        fours[i / 4] = fours[i / 4] << 8 | (at < text.length() ? text.charAt(at) : 0);
      }
      x.feed(fours[0], fours[1], fours[2], fours[3], fours[4]);
    }
    x.end(text.length());
  }

  static int read(BrokenFugue x, String text) {
    lay(x, text);
    return x.text();
  }

  /** Notes of one beat each from a beat on; NONE rests. */
  static void sing(BrokenFugue x, int piece, int voice, int from, int... pitches) {
    for (int i = 0; i < pitches.length; i++) {
      x.note(piece, voice, from + i, pitches[i], 1);
    }
  }

  /** A subject of notes of one beat each; -100 rests. */
  static void subjectOf(BrokenFugue x, int subject, int... pitches) {
    for (int i = 0; i < pitches.length; i++) {
      x.subject(subject, i, pitches[i], 1);
    }
  }

  /** A subject that stays on one pitch for all twelve beats, in three notes of four. */
  static void longSubject(BrokenFugue x, int subject, int pitch) {
    for (int beat = 0; beat < 12; beat += 4) {
      x.subject(subject, beat, pitch, 4);
    }
  }
}
