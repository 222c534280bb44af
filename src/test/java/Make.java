/** Makes shelves for the tests, and the bytes of files as hexadecimal digits, blanks and texts in quotes. */
final class Make {
    private static final String PAIRS = "0001 0000 0002 00ff 0000 0000 c000 4000 f000 0000 cc01 30ff 8801 18ff";

    private Make() {
    }

    static SoundShelf sound(int rate, int... samples) {
        SoundShelf shelf = new SoundShelf();
        shelf.tune(rate);
        for (int sample : samples) {
            shelf.add(sample);
        }
        return shelf;
    }

    static SoundShelf file(String bytes) {
        SoundShelf shelf = new SoundShelf();
        append(shelf, bytes);
        return shelf;
    }

    static void append(SoundShelf shelf, String bytes) {
        String hex = hex(bytes);
        for (int i = 0; i < hex.length(); i += 16) {
            String some = hex.substring(i, Math.min(hex.length(), i + 16));
            shelf.type(Long.parseUnsignedLong(some, 16), some.length() / 2);
        }
    }

    /** Pokes these bytes over the ones that are there from this place on. */
    static void over(SoundShelf shelf, int place, String bytes) {
        String hex = hex(bytes);
        for (int i = 0; i < hex.length(); i += 2) {
            shelf.poke(place + i / 2, Integer.parseInt(hex.substring(i, i + 2), 16));
        }
    }

    static String hex(String bytes) {
        StringBuilder hex = new StringBuilder();
        boolean quoted = false;
        for (char c : bytes.toCharArray()) {
            if (c == '\'') {
                quoted = !quoted;
            } else if (quoted) {
                hex.append(String.format("%02x", (int) c));
            } else if (c != ' ') {
                hex.append(c);
            }
        }
        return hex.toString();
    }

    static int length(String bytes) {
        return hex(bytes).length() / 2;
    }

    /** A whole wave file of these chunks: the number behind RIFF is the right one. */
    static String wave(String chunks) {
        return "'RIFF'" + little(length(chunks) + 4, 4) + "'WAVE'" + chunks;
    }

    static String other(String chunks) {
        return "'FORM'" + big(length(chunks) + 4, 4) + "'AIFF'" + chunks;
    }

    /** A file cut to so many bytes, with the number behind RIFF or FORM that is right for those. */
    static String shortened(String file, int bytes) {
        String hex = hex(file);
        String number = hex.startsWith(hex("'R'")) ? little(bytes - 8, 4) : big(bytes - 8, 4);
        return (hex.substring(0, 8) + number + hex.substring(16)).substring(0, 2 * bytes);
    }

    static String plainFmt(long rate, int align) {
        return "'fmt ' 10000000 0100 0100" + little(rate, 4) + little(rate * align, 4) + little(align, 2)
            + little(8 * align, 2);
    }

    static String steppedFmt(long rate, int m) {
        return "'fmt ' 14000000 1100 0100" + little(rate, 4) + little(rate * (m + 4) / (2 * m + 1), 4)
            + little(m + 4, 2) + "0400 0200" + little(2 * m + 1, 2);
    }

    static String predictedFmt(long rate, int m) {
        return "'fmt ' 32000000 0200 0100" + little(rate, 4) + little(rate * (m + 7) / (2 * m + 2), 4)
            + little(m + 7, 2) + "0400 2000" + little(2 * m + 2, 2) + "0700" + PAIRS;
    }

    static String fact(long samples) {
        return "'fact' 04000000" + little(samples, 4);
    }

    static String data(String bytes) {
        return "'data'" + little(length(bytes), 4) + bytes + (length(bytes) % 2 == 0 ? "" : "00");
    }

    static String comm(long samples, int bits, long rate) {
        return "'COMM' 00000012 0001" + big(samples, 4) + big(bits, 2) + longRate(rate);
    }

    static String ssnd(String bytes) {
        return "'SSND'" + big(8 + length(bytes), 4) + "00000000 00000000" + bytes + (length(bytes) % 2 == 0 ? "" : "00");
    }

    static String longRate(long rate) {
        int exponent = 63 - Long.numberOfLeadingZeros(rate);
        return big(16383 + exponent, 2) + big(rate << 63 - exponent, 8);
    }

    static String little(long number, int n) {
        StringBuilder hex = new StringBuilder();
        for (int i = 0; i < n; i++) {
            hex.append(String.format("%02x", number >> 8 * i & 255));
        }
        return hex.toString();
    }

    static String big(long number, int n) {
        StringBuilder hex = new StringBuilder();
        for (int i = n - 1; i >= 0; i--) {
            hex.append(String.format("%02x", number >> 8 * i & 255));
        }
        return hex.toString();
    }
}
