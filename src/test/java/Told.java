import java.nio.charset.StandardCharsets;

/** Feeds texts to objects. */
final class Told {
  private Told() { }

  static void feed(BearsTwo x, String text) {
    byte[] bytes = text.getBytes(StandardCharsets.ISO_8859_1);
    int had = x.count(6);
    for (int i = 0; i < bytes.length; i += 20) {
      int[] v = new int[5];
      for (int k = 0; k < 20; k++) v[k / 4] = v[k / 4] << 8 | (i + k < bytes.length ? bytes[i + k] & 255 : 32);
      x.feed(v[0], v[1], v[2], v[3], v[4]);
    }
    x.end(had + bytes.length);
  }

  static BearsTwo of(String text) {
    BearsTwo x = new BearsTwo();
    feed(x, text);
    if (x.river() < 0) throw new IllegalStateException("FAULT " + x.fault(0) + " at " + x.fault(1) + ": " + text);
    return x;
  }
}
