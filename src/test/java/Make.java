/** Makes shelves for the tests: with samples, with a file of given bytes, with both. */
final class Make {
    private Make() {
    }

    static SoundShelf sound(int rate, int... samples) {
        SoundShelf shelf = new SoundShelf();
        shelf.tune(rate);
        for (int sample : samples) {
            shelf.add(sample);
        }
        return shelf;
    }

    /** A file of hexadecimal digits (blanks between them are free) and of texts in quotes. */
    static SoundShelf file(String bytes) {
        SoundShelf shelf = new SoundShelf();
        append(shelf, bytes);
        return shelf;
    }

    static void append(SoundShelf shelf, String bytes) {
        String hex = hex(bytes);
        for (int i = 0; i < hex.length(); i += 2) {
            shelf.type(Integer.parseInt(hex.substring(i, i + 2), 16), 1);
        }
    }

    static String hex(String bytes) {
        StringBuilder hex = new StringBuilder();
        boolean quoted = false;
        for (char c : bytes.toCharArray()) {
            if (c == '\'') {
                quoted = !quoted;
            } else if (quoted) {
                hex.append(String.format("%02x", (int) c));
            } else if (c != ' ') {
                hex.append(c);
            }
        }
        return hex.toString();
    }

    /** A whole wave file of these chunks: the number behind RIFF is the right one. */
    static String wave(String chunks) {
        return "'RIFF'" + little(hex(chunks).length() / 2 + 4, 4) + "'WAVE'" + chunks;
    }

    static String other(String chunks) {
        return "'FORM'" + big(hex(chunks).length() / 2 + 4, 4) + "'AIFF'" + chunks;
    }

    static String little(long number, int n) {
        StringBuilder hex = new StringBuilder();
        for (int i = 0; i < n; i++) {
            hex.append(String.format("%02x", number >> 8 * i & 255));
        }
        return hex.toString();
    }

    static String big(long number, int n) {
        StringBuilder hex = new StringBuilder();
        for (int i = n - 1; i >= 0; i--) {
            hex.append(String.format("%02x", number >> 8 * i & 255));
        }
        return hex.toString();
    }
}
