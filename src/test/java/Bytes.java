import java.io.ByteArrayOutputStream;
import java.nio.charset.StandardCharsets;

/** Builds rows of bytes as messages have them. */
final class Bytes {
  private final ByteArrayOutputStream row = new ByteArrayOutputStream();

  Bytes number(long value, int width) {
    for (int i = 0; i < width; i++) {
      row.write((int) (value >>> (8 * i)));
    }
    return this;
  }

  Bytes raw(byte... bytes) {
    row.writeBytes(bytes);
    return this;
  }

  Bytes raw(String text) {
    return raw(text.getBytes(StandardCharsets.ISO_8859_1));
  }

  Bytes string(String text) {
    return number(text.length(), 2).raw(text);
  }

  Bytes qid(boolean directory, int version, int file) {
    return number(directory ? 128 : 0, 1).number(version, 4).number(file, 8);
  }

  Bytes stat(boolean directory, int version, int file, int rights, int length, String name) {
    Bytes inner = new Bytes().qid(directory, version, file);
    inner.number((directory ? 1L << 31 : 0) + rights, 4).number(length, 8).string(name);
    return number(inner.count(), 2).raw(inner.array());
  }

  int count() {
    return row.size();
  }

  byte[] array() {
    return row.toByteArray();
  }

  static byte[] frame(int type, int tag, byte[] body) {
    return new Bytes().number(7 + body.length, 4).number(type, 1).number(tag, 2).raw(body).array();
  }

  static byte[] frame(int type, int tag, Bytes body) {
    return frame(type, tag, body.array());
  }

  static String hex(byte[] bytes) {
    StringBuilder text = new StringBuilder();
    for (byte b : bytes) {
      text.append(String.format("%02x", b));
    }
    return text.toString();
  }

  /** A reply as Wire tells it: its type and its body. */
  static String reply(int type, Bytes body) {
    return type + ":" + hex(body.array());
  }

  static String error(char letter) {
    return "error " + letter;
  }
}
