import java.nio.charset.StandardCharsets;
import java.util.Arrays;

/** Brings texts onto the tape of an object. */
final class Texts {
    private Texts() {
    }

    /** Feeds a text, filled up with blanks to the next twenty bytes: how many bytes it has by itself. */
    static int feed(SalePart desk, String text) {
        byte[] bytes = text.getBytes(StandardCharsets.ISO_8859_1);
        for (int[] five : fives(bytes)) {
            desk.feed(five[0], five[1], five[2], five[3], five[4]);
        }
        return bytes.length;
    }

    static int[][] fives(byte[] bytes) {
        byte[] full = Arrays.copyOf(bytes, (bytes.length + 19) / 20 * 20);
        Arrays.fill(full, bytes.length, full.length, (byte) ' ');
        int[][] fives = new int[full.length / 20][5];
        for (int i = 0; i < full.length / 4; i++) {
            fives[i / 5][i % 5] = java.nio.ByteBuffer.wrap(full, 4 * i, 4).getInt();
        }
        return fives;
    }

    static int law(SalePart desk, int land, String text, int from) {
        int n = feed(desk, text);
        return desk.law(land, n, from);
    }

    static int attempt(SalePart desk, int land, String text, int from) {
        int n = feed(desk, text);
        return desk.attempt(land, n, from);
    }
}
