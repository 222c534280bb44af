/** Samples in files as they are read, sentence by sentence, with the least and the greatest of each number. */
public final class BlocksTest {
    private static final int[] STEPS = {
        7, 8, 9, 10, 11, 12, 13, 14, 16, 17, 19, 21, 23, 25, 28, 31, 34, 37, 41, 45, 50, 55, 60, 66, 73, 80, 88, 97, 107,
        118, 130, 143, 157, 173, 190, 209, 230, 253, 279, 307, 337, 371, 408, 449, 494, 544, 598, 658, 724, 796, 876, 963,
        1060, 1166, 1282, 1411, 1552, 1707, 1878, 2066, 2272, 2499, 2749, 3024, 3327, 3660, 4026, 4428, 4871, 5358, 5894,
        6484, 7132, 7845, 8630, 9493, 10442, 11487, 12635, 13899, 15289, 16818, 18500, 20350, 22385, 24623, 27086, 29794,
        32767,
    };
    private static final int[] CHANGES = {-1, -1, -1, -1, 2, 4, 6, 8};
    private static final int[][] PAIRS = {{256, 0}, {512, -256}, {0, 0}, {192, 64}, {240, 0}, {460, -208}, {392, -232}};
    private static final int[] FACTORS = {
        230, 230, 230, 230, 307, 409, 512, 614, 768, 614, 512, 409, 307, 230, 230, 230,
    };
    private static final int[] ENDS = {-32768, -32767, -256, -1, 0, 1, 255, 32766, 32767};
    private static final int STEPPED_BLOCK = 60;
    private static final int PREDICTED_BLOCK = 90;

    private final SoundShelf stepped = Make.file(Make.wave(Make.steppedFmt(8000, 1) + Make.fact(3)
        + Make.data("0000 00 00 00")));
    private final SoundShelf predicted = Make.file(Make.wave(Make.predictedFmt(8000, 1) + Make.fact(4)
        + Make.data("00 1000 0000 0000 00")));

    public static void main(String[] args) {
        BlocksTest test = new BlocksTest();
        plainBytes();
        plainWords();
        samplesOfSsnd();
        lowerBits();
        test.everyDifference();
        test.everyIndexBehind();
        test.stepsAreCut();
        test.lowNibbleFirst();
        firstSampleOfSteps();
        indexOfHeader();
        byteBehindIndex();
        test.everyPair();
        test.predictionIsCut();
        test.deltaWithin();
        test.highNibbleFirst();
        pairOfHeader();
        deltaOfHeader();
        samplesOfHeader();
        beyondTheSamples();
        headersBeyondTheSamples();
        Check.end();
    }

    private static int cut(long number) {
        return (int) Math.max(-32768, Math.min(32767, number));
    }

    private static void plainBytes() {
        Check.sentence("Plain, 8 bits: sample >> 8, and 128 more; read: 256 times what is 128 less.");
        for (int b = 0; b < 256; b++) {
            Reading.reads("byte " + b, Make.wave(Make.plainFmt(8000, 1) + Make.data(Make.little(b, 1))), 0,
                "8000: " + 256 * (b - 128));
        }
    }

    private static void plainWords() {
        Check.sentence("16 bits: little 2 with sign.");
        for (int sample : ENDS) {
            Reading.reads("word", Make.wave(Make.plainFmt(8000, 2) + Make.data(Make.little(sample, 2))), 1,
                "8000: " + sample);
        }
        Reading.reads("32767 and -32768", Make.wave(Make.plainFmt(8000, 2) + Make.data("ff7f 0080")), 1,
            "8000: 32767 -32768");
    }

    private static void samplesOfSsnd() {
        Check.sentence("read, the sample with b bits times 2 to the 16 - b");
        for (int bits = 1; bits <= 16; bits++) {
            int width = bits <= 8 ? 8 : 16;
            int least = -(1 << bits - 1);
            for (int sample : new int[] {least, least + 1, -1, 0, -least - 1}) {
                if (sample < -least) {
                    String number = Make.big((long) sample << width - bits, width / 8);
                    Reading.reads(sample + " with " + bits, Make.other(Make.comm(1, bits, 8000) + Make.ssnd(number)), 4,
                        "8000: " + sample * (1 << 16 - bits));
                }
            }
        }
    }

    private static void lowerBits() {
        Check.sentence("a sample of \"SSND\" is a number, whose lower bits must be 0");
        for (int bits = 1; bits <= 16; bits++) {
            int width = bits <= 8 ? 8 : 16;
            int bytes = width / 8;
            String comm = Make.comm(3, bits, 8000);
            String zero = "00".repeat(bytes);
            for (int bit = 0; bit < width; bit++) {
                String number = Make.big(1 << bit, bytes);
                String text = "bit " + bit + " of " + bits + " bits";
                String first = Make.other(comm + Make.ssnd(number + zero + zero));
                String last = Make.other(comm + Make.ssnd(zero + zero + number));
                if (bit >= width - bits) {
                    int sample = (short) (1 << bit + 16 - width);
                    Reading.reads(text, first, 4, "8000: " + sample + " 0 0");
                    Reading.reads(text, last, 4, "8000: 0 0 " + sample);
                } else {
                    Reading.fails(text, first, 54);
                    Reading.fails(text, last, 54 + 2 * bytes);
                }
            }
        }
    }

    private void steppedDue(String label, int first, int index, int low, int high, int second, int third) {
        Make.over(stepped, STEPPED_BLOCK, Make.little(first, 2) + Make.little(index, 1) + "00"
            + Make.little(low + 16 * high, 1));
        Check.same(label + " read", stepped.read(), SoundShelf.NONE);
        Check.same(label, Check.soundOf(stepped), "8000: " + first + " " + second + " " + third);
    }

    private static int difference(int index, int nibble) {
        int s = STEPS[index];
        int d = s / 8 + (nibble % 2 == 1 ? s / 4 : 0) + (nibble / 2 % 2 == 1 ? s / 2 : 0) + (nibble / 4 % 2 == 1 ? s : 0);
        return nibble < 8 ? d : -d;
    }

    private static int indexBehind(int index, int nibble) {
        return Math.max(0, Math.min(88, index + CHANGES[nibble % 8]));
    }

    private void everyDifference() {
        Check.sentence("with s the step of the index, d is s >> 3, and s >> 2 more if bit 0 of v is 1, s >> 1 more if"
            + " bit 1, s more if bit 2");
        everyIndexAndNibble(0);
    }

    /** The second nibble tells by its difference which index the first one has led to. */
    private void everyIndexAndNibble(int then) {
        for (int index = 0; index <= 88; index++) {
            for (int nibble = 0; nibble < 16; nibble++) {
                int second = cut(difference(index, nibble));
                int third = cut(second + difference(indexBehind(index, nibble), then));
                steppedDue("index " + index + ", nibble " + nibble, 0, index, nibble, then, second, third);
            }
        }
    }

    private void everyIndexBehind() {
        Check.sentence("Then the index changes by -1, -1, -1, -1, 2, 4, 6, 8 for v modulo 8 = 0 .. 7, within 0 .. 88.");
        everyIndexAndNibble(7);
        everyIndexAndNibble(15);
        steppedDue("from 0 not below 0", 0, 0, 0, 7, 0, 11);
        steppedDue("from 1 to 0", 0, 1, 0, 7, 1, 12);
        // 7 from 80 comes to 88 itself, from 81 it would come to 89: the step is 32767 in both.
        steppedDue("to 88", -32768, 80, 7, 0, -32768 + 28666, -32768 + 28666 + 4095);
        steppedDue("not above 88", -32768, 81, 7, 0, -32768 + 31533, -32768 + 31533 + 4095);
        steppedDue("to 87", -32768, 79, 7, 0, -32768 + 26059, -32768 + 26059 + 3724);
    }

    private void stepsAreCut() {
        Check.sentence("the next sample is the one before it plus d, or less d if bit 3 is 1, cut");
        // With index 0, 7 adds 11 and 15 takes 11 away.
        steppedDue("32767 itself", 32756, 0, 7, 0, 32767, 32767);
        steppedDue("32768 is cut", 32757, 0, 7, 8, 32767, 32765);
        steppedDue("32766", 32755, 0, 7, 0, 32766, 32767);
        steppedDue("-32768 itself", -32757, 0, 15, 0, -32768, -32766);
        steppedDue("-32769 is cut", -32758, 0, 15, 0, -32768, -32766);
        steppedDue("-32767", -32756, 0, 15, 8, -32767, -32768);
        steppedDue("far above", 32767, 88, 7, 7, 32767, 32767);
        steppedDue("far below", -32768, 88, 15, 15, -32768, -32768);
    }

    private void lowNibbleFirst() {
        Check.sentence("then m bytes, each two NIBBLES, the low one first");
        steppedDue("7, then 0", 0, 0, 7, 0, 11, 13);
        steppedDue("0, then 7", 0, 0, 0, 7, 0, 11);
        Reading.reads("of two bytes", Make.wave(Make.steppedFmt(8000, 2) + Make.fact(5) + Make.data("0000 00 00 21 43")),
            2, "8000: 0 1 4 8 15");
    }

    private static void firstSampleOfSteps() {
        Check.sentence("a header: little 2: the first sample");
        for (int sample : ENDS) {
            Reading.reads("first sample", Make.wave(Make.steppedFmt(8000, 1) + Make.fact(1)
                + Make.data(Make.little(sample, 2) + "00 00 00")), 2, "8000: " + sample);
        }
    }

    private static String twoBlocks(String fmt, int inBlock, String first, String second) {
        return Make.wave(fmt + Make.fact(inBlock + 1) + Make.data(first + second));
    }

    private static void indexOfHeader() {
        Check.sentence("1: an INDEX 0 .. 88");
        String fmt = Make.steppedFmt(8000, 1);
        for (int index = 0; index < 256; index++) {
            String block = "0300 " + Make.little(index, 1) + "00 00";
            String first = twoBlocks(fmt, 3, block, "0400 00 00 00");
            String second = twoBlocks(fmt, 3, "0400 00 00 00", block);
            if (index <= 88) {
                Check.same("index " + index, Make.file(first).read(), SoundShelf.NONE);
                Reading.reads("index " + index, second, 2, "8000: 4 4 4 3");
            } else {
                Reading.fails("index " + index, first, 62);
                Reading.fails("index " + index + " of the second block", second, 67);
            }
        }
    }

    private static void byteBehindIndex() {
        Check.sentence("1: an INDEX 0 .. 88; 1: 0");
        String fmt = Make.steppedFmt(8000, 1);
        Reading.reads("0", twoBlocks(fmt, 3, "0300 00 00 00", "0300 58 00 00"), 2, "8000: 3 3 3 3");
        for (int b = 1; b < 256; b++) {
            String block = "0300 58" + Make.little(b, 1) + "00";
            Reading.fails("byte " + b, twoBlocks(fmt, 3, block, "0400 00 00 00"), 63);
            Reading.fails("byte " + b + " of the second block", twoBlocks(fmt, 3, "0400 00 00 00", block), 68);
        }
    }

    private void predictedDue(String label, int pair, int delta, int[] two, int high, int low, int[] next) {
        Make.over(predicted, PREDICTED_BLOCK, Make.little(pair, 1) + Make.little(delta, 2) + Make.little(two[1], 2)
            + Make.little(two[0], 2) + Make.little(16 * high + low, 1));
        Check.same(label + " read", predicted.read(), SoundShelf.NONE);
        Check.same(label, Check.soundOf(predicted), "8000: " + two[0] + " " + two[1] + " " + next[0] + " " + next[1]);
    }

    private static int foreseen(int pair, int x, int y) {
        return (int) Math.floorDiv((long) x * PAIRS[pair][0] + (long) y * PAIRS[pair][1], 256L);
    }

    private static int weight(int nibble) {
        return nibble < 8 ? nibble : nibble - 16;
    }

    private void everyPair() {
        Check.sentence("with x the sample before and y the one before that, the next is (x * c + y * e >> 8) + w * delta,"
            + " cut");
        for (int pair = 0; pair <= 6; pair++) {
            for (int y : ENDS) {
                for (int x : ENDS) {
                    for (int nibble = 0; nibble < 16; nibble++) {
                        int third = cut(foreseen(pair, x, y) + weight(nibble) * 16L);
                        int fourth = cut(foreseen(pair, third, x));
                        predictedDue("pair " + pair + ", nibble " + nibble, pair, 16, new int[] {y, x}, nibble, 0,
                            new int[] {third, fourth});
                    }
                }
            }
        }
    }

    private void predictionIsCut() {
        Check.sentence("To CUT a number to 16 bits: below -32768 it becomes that, above 32767 that.");
        predictedDue("32767 itself", 0, 16, new int[] {0, 32751}, 1, 0, new int[] {32767, 32767});
        predictedDue("32768 is cut", 0, 16, new int[] {0, 32752}, 1, 0, new int[] {32767, 32767});
        predictedDue("32766", 0, 16, new int[] {0, 32750}, 1, 0, new int[] {32766, 32766});
        predictedDue("-32768 itself", 0, 16, new int[] {0, -32752}, 15, 0, new int[] {-32768, -32768});
        predictedDue("-32769 is cut", 0, 16, new int[] {0, -32753}, 15, 0, new int[] {-32768, -32768});
        predictedDue("-32767", 0, 16, new int[] {0, -32751}, 15, 0, new int[] {-32767, -32767});
        predictedDue("far above", 1, 65535, new int[] {-32768, 32767}, 7, 7, new int[] {32767, 32767});
        predictedDue("far below", 1, 65535, new int[] {32767, -32768}, 8, 8, new int[] {-32768, -32768});
    }

    /** With the pair 2 nothing is foreseen, so that the second nibble, 1, shows the delta itself. */
    private void deltaWithin() {
        Check.sentence("Then delta becomes delta * a >> 8, at least 16 and at most 32767");
        for (int nibble = 0; nibble < 16; nibble++) {
            int toLeast = 16 * 256 / FACTORS[nibble];
            int toMost = 32767 * 256 / FACTORS[nibble];
            int[] deltas = {
                1, toLeast - 1, toLeast, toLeast + 1, toLeast + 2, 16, 17, 1000, toMost - 1, toMost, toMost + 1,
                toMost + 2, 32767, 32768, 65534, 65535,
            };
            for (int delta : deltas) {
                int third = cut((long) weight(nibble) * delta);
                int fourth = Math.max(16, Math.min(32767, delta * FACTORS[nibble] / 256));
                predictedDue("delta " + delta + ", nibble " + nibble, 2, delta, new int[] {0, 0}, nibble, 1,
                    new int[] {third, fourth});
            }
        }
        predictedDue("15 becomes 16", 2, 17, new int[] {0, 0}, 0, 1, new int[] {0, 16});
        predictedDue("17 stays 17", 2, 19, new int[] {0, 0}, 0, 1, new int[] {0, 17});
        predictedDue("32766 stays", 2, 16383, new int[] {0, 0}, 6, 1, new int[] {32767, 32766});
        predictedDue("32768 becomes 32767", 2, 16384, new int[] {0, 0}, 6, 1, new int[] {32767, 32767});
    }

    private void highNibbleFirst() {
        Check.sentence("then m bytes of two nibbles, the high one first");
        predictedDue("1, then 0", 2, 16, new int[] {0, 0}, 1, 0, new int[] {16, 0});
        predictedDue("0, then 1", 2, 16, new int[] {0, 0}, 0, 1, new int[] {0, 16});
        Check.sentence("A nibble v stands for w = v, or v - 16 from 8 on");
        predictedDue("7, then 8", 2, 1, new int[] {0, 0}, 7, 8, new int[] {7, -128});
        predictedDue("8, then 7", 2, 1, new int[] {0, 0}, 8, 7, new int[] {-8, 112});
        predictedDue("15", 2, 1, new int[] {0, 0}, 15, 0, new int[] {-1, 0});
    }

    private static void pairOfHeader() {
        Check.sentence("a header: 1: which pair (c, e), 0 .. 6");
        String fmt = Make.predictedFmt(8000, 1);
        String right = "00 1000 0400 0400 00";
        for (int pair = 0; pair < 256; pair++) {
            String block = Make.little(pair, 1) + "1000 0300 0300 00";
            String first = twoBlocks(fmt, 4, block, right);
            String second = twoBlocks(fmt, 4, right, block);
            if (pair <= 6) {
                Check.same("pair " + pair, Make.file(first).read(), SoundShelf.NONE);
                Reading.reads("pair " + pair, second, 3, "8000: 4 4 4 4 3");
            } else {
                Reading.fails("pair " + pair, first, 90);
                Reading.fails("pair " + pair + " of the second block", second, 98);
            }
        }
    }

    private static void deltaOfHeader() {
        Check.sentence("little 2 (without sign): DELTA, 1 or more");
        String fmt = Make.predictedFmt(8000, 1);
        String right = "02 1000 0400 0400 00";
        for (int delta : new int[] {1, 2, 15, 255, 256, 32767, 32768, 65535}) {
            String block = "02" + Make.little(delta, 2) + "0400 0400 f0";
            int third = cut(-delta);
            Reading.reads("delta " + delta, twoBlocks(fmt, 4, block, right), 3, "8000: 4 4 " + third + " 0 4");
            Reading.reads("delta " + delta, twoBlocks(fmt, 4, right, block), 3, "8000: 4 4 0 0 4");
        }
        Reading.fails("delta 0", twoBlocks(fmt, 4, "00 0000 0400 0400 00", right), 91);
        Reading.fails("delta 0 of the second block", twoBlocks(fmt, 4, right, "00 0000 0400 0400 00"), 99);
    }

    private static void samplesOfHeader() {
        Check.sentence("little 2: the second sample; little 2: the first");
        String fmt = Make.predictedFmt(8000, 1);
        for (int first : ENDS) {
            for (int second : ENDS) {
                String block = "00 1000" + Make.little(second, 2) + Make.little(first, 2) + "00";
                Reading.reads("two", Make.wave(fmt + Make.fact(2) + Make.data(block)), 3,
                    "8000: " + first + " " + second);
                Reading.reads("one", Make.wave(fmt + Make.fact(1) + Make.data(block)), 3, "8000: " + first);
            }
        }
    }

    /** Two bytes of four nibbles, of which so many are these and the others the rest. */
    private static String nibbles(int[] four, int used, int rest, boolean highFirst) {
        StringBuilder hex = new StringBuilder();
        for (int i = 0; i < 4; i += 2) {
            int one = i < used ? four[i] : rest;
            int two = i + 1 < used ? four[i + 1] : rest;
            hex.append(Make.little(highFirst ? 16 * one + two : 16 * two + one, 1));
        }
        return hex.toString();
    }

    private static String firstOf(int[] samples, int many) {
        StringBuilder text = new StringBuilder("8000:");
        for (int i = 0; i < many; i++) {
            text.append(' ').append(samples[i]);
        }
        return text.toString();
    }

    private static void beyondTheSamples() {
        Check.sentence("The last block is whole; what stands in it beyond the samples is not looked at when it is read");
        int[] stepped = {1, 5, 16, 18, 26};
        int[] predicted = {1, 5, 21, 53, 101, 165};
        for (int rest = 0; rest < 16; rest++) {
            for (int many = 1; many <= 5; many++) {
                String block = "0100 00 00" + nibbles(new int[] {3, 7, 0, 2}, many - 1, rest, false);
                Reading.reads(many + " stepped", Make.wave(Make.steppedFmt(8000, 2) + Make.fact(many) + Make.data(block)),
                    2, firstOf(stepped, many));
            }
            for (int many = 1; many <= 6; many++) {
                String second = many == 1 ? Make.little(rest * 4369, 2) : "0500";
                String block = "00 1000" + second + "0100" + nibbles(new int[] {1, 2, 3, 4}, many - 2, rest, true);
                Reading.reads(many + " predicted", Make.wave(Make.predictedFmt(8000, 2) + Make.fact(many)
                    + Make.data(block)), 3, firstOf(predicted, many));
            }
        }
    }

    private static void headersBeyondTheSamples() {
        Check.sentence("what stands in it beyond the samples is not looked at when it is read, but for headers");
        String stepped = Make.steppedFmt(8000, 1) + Make.fact(1);
        Reading.reads("index 88 for no nibble", Make.wave(stepped + Make.data("0100 58 00 ff")), 2, "8000: 1");
        Reading.fails("index 89 for no nibble", Make.wave(stepped + Make.data("0100 59 00 ff")), 62);
        Reading.fails("1 behind the index", Make.wave(stepped + Make.data("0100 58 01 ff")), 63);
        String predicted = Make.predictedFmt(8000, 1) + Make.fact(1);
        Reading.reads("pair 6 for no nibble", Make.wave(predicted + Make.data("06 0100 ffff 0100 ff")), 3, "8000: 1");
        Reading.fails("pair 7 for no nibble", Make.wave(predicted + Make.data("07 0100 ffff 0100 ff")), 90);
        Reading.fails("delta 0 for no nibble", Make.wave(predicted + Make.data("06 0000 ffff 0100 ff")), 91);
    }
}
