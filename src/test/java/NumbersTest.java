/** The numbers in each chunk, sentence by sentence: the last that is taken, and the first that is refused. */
public final class NumbersTest {
    private static final int[] RATES = {1, 2, 3, 7, 8000, 8001, 44100, 131071, 191999, 192000};

    public static void main(String[] args) {
        behindRiffOrForm();
        fixedNumbersOfFmt();
        sizeOfFmt();
        tagOfSize();
        rateOfFmt();
        alignOfPlain();
        alignOfStepped();
        alignOfPredicted();
        bytesASecond();
        fact();
        sizeOfPlainData();
        sizeOfBlocks();
        fixedNumbersOfOther();
        samplesOfComm();
        bitsOfComm();
        leastAndGreatestOfExponent();
        exponentOfRate();
        numberOfRate();
        sizeOfSsnd();
        Check.end();
    }

    private static String plain() {
        return Make.wave(Make.plainFmt(8000, 1) + Make.data("80 81"));
    }

    private static String stepped() {
        return Make.wave(Make.steppedFmt(8000, 1) + Make.fact(1) + Make.data("0000 00 00 00"));
    }

    private static String predicted() {
        return Make.wave(Make.predictedFmt(8000, 1) + Make.fact(1) + Make.data("00 1000 0000 0000 00"));
    }

    private static String other() {
        return Make.other(Make.comm(1, 16, 8000) + Make.ssnd("0001"));
    }

    /** The file is read, and refused at this number's first byte when any of its bits is another one. */
    private static void fixed(String label, String bytes, int place, int n) {
        SoundShelf shelf = Make.file(bytes);
        Check.same(label, shelf.read(), SoundShelf.NONE);
        String before = Check.soundOf(shelf) + Check.formOf(shelf);
        for (int bit = 0; bit < 8 * n; bit++) {
            int k = place + bit / 8;
            int right = shelf.byteAt(k);
            shelf.poke(k, right ^ 1 << bit % 8);
            Check.same(label + ", bit " + bit + " of the number at " + place, shelf.read(), place);
            shelf.poke(k, right);
        }
        Check.same(label + " changes nothing", Check.soundOf(shelf) + Check.formOf(shelf), before);
    }

    private static void changed(String label, String bytes, int at, String number, int place) {
        SoundShelf shelf = Make.file(bytes);
        Make.over(shelf, at, number);
        Reading.fails(label, Check.hexOf(shelf), place);
    }

    private static void behindRiffOrForm() {
        Check.sentence("The number behind RIFF or FORM is 8 less than the file has bytes.");
        fixed("wave", plain(), 4, 4);
        fixed("other", other(), 4, 4);
        int wave = Make.length(plain()) - 8;
        int other = Make.length(other()) - 8;
        for (int more : new int[] {-8, -1, 1, 8}) {
            changed("wave, " + more + " more", plain(), 4, Make.little(wave + more, 4), 4);
            changed("other, " + more + " more", other(), 4, Make.big(other + more, 4), 4);
        }
        changed("wave, big", plain(), 4, Make.big(wave, 4), 4);
        changed("other, little", other(), 4, Make.little(other, 4), 4);
        Reading.fails("a file of 8 bytes, 0", "'RIFF' 00000000", 8);
        Reading.fails("a file of 8 bytes, 1", "'RIFF' 01000000", 4);
        Reading.fails("a file of 9 bytes, 1", "'FORM' 00000001 00", 8);
        Reading.fails("a file of 9 bytes, 0", "'FORM' 00000000 00", 4);
    }

    private static void fixedNumbersOfFmt() {
        Check.sentence("\"fmt \", little: 2: tag; 2: 1; 4: rate; 4: bytes a second; 2: ALIGN; 2: bits");
        for (int place : new int[] {20, 22, 34}) {
            fixed("plain", plain(), place, 2);
            fixed("stepped", stepped(), place, 2);
            fixed("predicted", predicted(), place, 2);
        }
        Check.sentence("bits 4; then 2: 2; 2: P, 2 m + 1");
        fixed("stepped, 2", stepped(), 36, 2);
        fixed("stepped, P", stepped(), 38, 2);
        Check.sentence("then 2: 32; 2: P, 2 m + 2; 2: 7; and seven pairs of 2 with sign: 256 0, 512 -256, 0 0, 192 64,"
            + " 240 0, 460 -208, 392 -232");
        for (int place = 36; place < 70; place += 2) {
            fixed("predicted", predicted(), place, 2);
        }
    }

    private static void sizeOfFmt() {
        Check.sentence("of \"fmt \" one of the three");
        String[] files = {plain(), stepped(), predicted()};
        int[] sizes = {16, 20, 50};
        for (int i = 0; i < 3; i++) {
            Check.same("of size " + sizes[i], Make.file(files[i]).read(), SoundShelf.NONE);
            for (int size = 0; size < 60; size++) {
                if (size != 16 && size != 20 && size != 50) {
                    changed("size " + size + " for " + sizes[i], files[i] + "00".repeat(60), 4,
                        Make.little(Make.length(files[i]) + 52, 4) + "'WAVE' 'fmt '" + Make.little(size, 4), 16);
                }
            }
            changed("size with a high byte", files[i], 16, Make.little(sizes[i] + (1L << 24), 4), 16);
            changed("size below 0", files[i], 16, Make.little(sizes[i] + (1L << 31), 4), 16);
            changed("size big", files[i], 16, Make.big(sizes[i], 4), 16);
        }
    }

    private static void tagOfSize() {
        Check.sentence("the tag then that of this size");
        int[] sizes = {16, 20, 50};
        int[] tags = {1, 17, 2};
        String[] files = {plain(), stepped(), predicted()};
        for (int i = 0; i < 3; i++) {
            for (int tag = 0; tag < 20; tag++) {
                if (tag != tags[i]) {
                    changed("tag " + tag + " of size " + sizes[i], files[i], 20, Make.little(tag, 2), 20);
                }
            }
        }
        changed("size 20, tag 1", plain() + "0000000000000000", 4, "2e000000 'WAVE' 'fmt ' 14000000", 20);
        changed("size 16, tag 17", stepped(), 16, "10000000", 20);
        changed("size 16, tag 2", predicted(), 16, "10000000", 20);
        changed("size 20, tag 2", predicted(), 16, "14000000", 20);
    }

    private static void rateOfFmt() {
        Check.sentence("a RATE, 1 .. 192000");
        for (long rate : new long[] {1, 192000}) {
            Reading.reads("plain", Make.wave(Make.plainFmt(rate, 2) + Make.data("")), 1, rate + ":");
            Reading.reads("stepped", Make.wave(Make.steppedFmt(rate, 3) + Make.fact(0) + Make.data("")), 2, rate + ":");
            Reading.reads("predicted", Make.wave(Make.predictedFmt(rate, 3) + Make.fact(0) + Make.data("")), 3,
                rate + ":");
        }
        for (long rate : new long[] {0, 192001, 1 << 24, 1L << 31, (1L << 32) - 1}) {
            Reading.fails("plain, rate " + rate, Make.wave(Make.plainFmt(rate, 2) + Make.data("")), 24);
            Reading.fails("stepped, rate " + rate, Make.wave(Make.steppedFmt(rate, 3) + Make.fact(0)), 24);
            Reading.fails("predicted, rate " + rate, Make.wave(Make.predictedFmt(rate, 3) + Make.fact(0)), 24);
        }
    }

    private static void alignOfPlain() {
        Check.sentence("1 PLAIN: size 16, align 1 or 2, bits 8 * align.");
        Reading.reads("align 1", Make.wave(Make.plainFmt(8000, 1) + Make.data("0080")), 0, "8000: -32768 0");
        Reading.reads("align 2", Make.wave(Make.plainFmt(8000, 2) + Make.data("0080")), 1, "8000: -32768");
        for (int align : new int[] {0, 3, 4, 257, 258, 32768, 65535}) {
            Reading.fails("align " + align, Make.wave(Make.plainFmt(8000, align) + Make.data("")), 32);
        }
        changed("align 1 with 16 bits", plain(), 34, "1000", 34);
        changed("align 2 with 8 bits", plain(), 28, "803e0000 0200 0800", 34);
        changed("align 1 with 7 bits", plain(), 34, "0700", 34);
        changed("align 1 with 9 bits", plain(), 34, "0900", 34);
    }

    private static void alignOfStepped() {
        Check.sentence("17 STEPPED: size 20, align 5 .. 12 (m is align - 4)");
        for (int m = 1; m <= 8; m++) {
            String block = "0500 00 00" + "00".repeat(m);
            Reading.reads("align " + (m + 4), Make.wave(Make.steppedFmt(8000, m) + Make.fact(1) + Make.data(block)), 2,
                "8000: 5");
        }
        for (int m : new int[] {-4, -3, -2, -1, 0, 9, 10, 256 + 1}) {
            Reading.fails("align " + (m + 4), Make.wave(Make.steppedFmt(8000, m) + Make.fact(0) + Make.data("")), 32);
        }
    }

    private static void alignOfPredicted() {
        Check.sentence("2 PREDICTED: size 50, align 8 .. 15 (m is align - 7)");
        for (int m = 1; m <= 8; m++) {
            String block = "00 1000 0500 0500" + "00".repeat(m);
            Reading.reads("align " + (m + 7), Make.wave(Make.predictedFmt(8000, m) + Make.fact(1) + Make.data(block)), 3,
                "8000: 5");
        }
        for (int m : new int[] {-7, -6, -1, 0, 9, 10, 256 + 1}) {
            Reading.fails("align " + (m + 7), Make.wave(fmtOfAlign(m + 7) + Make.fact(0) + Make.data("")), 32);
        }
    }

    /** A predicted "fmt " of any align, also of one that leaves nothing to divide by. */
    private static String fmtOfAlign(int align) {
        return Make.predictedFmt(8000, 1).replace("0800" + "0400", Make.little(align, 2) + "0400");
    }

    private static void bytesASecond() {
        Check.sentence("Bytes a second are rate * align, for the tags 17 and 2 divided by P, rounded down.");
        for (int rate : RATES) {
            speed("bytes", Make.plainFmt(rate, 1), "", rate);
            speed("words", Make.plainFmt(rate, 2), "", 2L * rate);
            for (int m = 1; m <= 8; m++) {
                speed("stepped", Make.steppedFmt(rate, m), Make.fact(0), (long) rate * (m + 4) / (2 * m + 1));
                speed("predicted", Make.predictedFmt(rate, m), Make.fact(0), (long) rate * (m + 7) / (2 * m + 2));
            }
        }
        // 12 / 17 is rounded down to none at all.
        Reading.reads("none", Make.wave(Make.steppedFmt(1, 8) + Make.fact(0) + Make.data("")), 2, "1:");
        fixed("all bits, bytes", plain(), 28, 4);
        fixed("all bits, stepped", stepped(), 28, 4);
        fixed("all bits, predicted", predicted(), 28, 4);
    }

    private static void speed(String label, String fmt, String fact, long due) {
        SoundShelf shelf = Make.file(Make.wave(fmt + fact + Make.data("")));
        Make.over(shelf, 28, Make.little(due, 4));
        Check.same(label + " " + due, shelf.read(), SoundShelf.NONE);
        Make.over(shelf, 28, Make.little(due + 1, 4));
        Check.same(label + " one more than " + due, shelf.read(), 28);
        Make.over(shelf, 28, Make.little(due - 1, 4));
        Check.same(label + " one less than " + due, shelf.read(), 28);
    }

    private static void fact() {
        Check.sentence("size 4; 4: how many samples there are, 0 .. 64");
        String fmt = Make.steppedFmt(8000, 8);
        String block = "0100 00 00 0000000000000000";
        Reading.reads("0 samples", Make.wave(fmt + Make.fact(0) + Make.data("")), 2, "8000:");
        Reading.reads("64 samples", Make.wave(fmt + Make.fact(64) + Make.data(block.repeat(4))), 2,
            "8000:" + " 1".repeat(64));
        for (long samples : new long[] {65, 68, 128, 256, 1 << 24, 1L << 31, (1L << 32) - 1}) {
            Reading.fails(samples + " samples", Make.wave(fmt + Make.fact(samples) + Make.data(block.repeat(4))), 48);
        }
        Reading.reads("size 4", Make.wave(fmt + "'fact' 04000000 00000000" + Make.data("")), 2, "8000:");
        for (int size : new int[] {0, 1, 2, 3, 5, 6, 8, 260}) {
            Reading.fails("size " + size, Make.wave(fmt + "'fact'" + Make.little(size, 4) + "00".repeat(280)), 44);
        }
    }

    private static void sizeOfPlainData() {
        Check.sentence("its size is a whole number of aligns, 0 .. 64 of them, in plain files");
        for (int samples : new int[] {0, 1, 2, 63, 64}) {
            Reading.reads(samples + " bytes", Make.wave(Make.plainFmt(8000, 1) + Make.data("80".repeat(samples))), 0,
                "8000:" + " 0".repeat(samples));
            Reading.reads(samples + " words", Make.wave(Make.plainFmt(8000, 2) + Make.data("0700".repeat(samples))), 1,
                "8000:" + " 7".repeat(samples));
        }
        for (int size : new int[] {65, 66, 127, 128, 129, 256}) {
            Reading.fails(size + " bytes", Make.wave(Make.plainFmt(8000, 1) + Make.data("80".repeat(size))), 40);
        }
        for (int size : new int[] {1, 3, 63, 65, 127, 129, 130, 256}) {
            Reading.fails(size + " bytes of words", Make.wave(Make.plainFmt(8000, 2) + Make.data("80".repeat(size))), 40);
        }
    }

    private static void sizeOfBlocks() {
        Check.sentence("in others align times as many blocks as the samples in \"fact\" need");
        for (int m = 1; m <= 8; m++) {
            blocksNeeded("stepped", Make.steppedFmt(8000, m), "0300 00 00" + "00".repeat(m), 2 * m + 1, 2);
            blocksNeeded("predicted", Make.predictedFmt(8000, m), "00 1000 0300 0300" + "00".repeat(m), 2 * m + 2, 3);
        }
    }

    private static void blocksNeeded(String label, String fmt, String block, int inBlock, int form) {
        int placeOfSize = 12 + Make.length(fmt) + 12 + 4;
        for (int samples : new int[] {0, 1, inBlock - 1, inBlock, inBlock + 1, 2 * inBlock, 2 * inBlock + 1, 63, 64}) {
            String text = label + " " + samples + " of " + inBlock + " in a block";
            String start = fmt + Make.fact(samples);
            int blocks = samples / inBlock + (samples % inBlock == 0 ? 0 : 1);
            String all = block.repeat(blocks);
            Reading.reads(text, Make.wave(start + Make.data(all)), form, "8000:" + " 3".repeat(samples));
            Reading.fails(text + ", a block more", Make.wave(start + Make.data(all + block)), placeOfSize);
            Reading.fails(text + ", a byte more", Make.wave(start + Make.data(all + "00")), placeOfSize);
            if (blocks > 0) {
                Reading.fails(text + ", a block less", Make.wave(start + Make.data(block.repeat(blocks - 1))),
                    placeOfSize);
                String less = Make.hex(all).substring(2);
                Reading.fails(text + ", a byte less", Make.wave(start + Make.data(less)), placeOfSize);
            }
        }
    }

    private static void fixedNumbersOfOther() {
        Check.sentence("\"COMM\": size 18, big 2: 1");
        fixed("size", other(), 16, 4);
        fixed("1", other(), 20, 2);
        changed("1 little", other(), 20, "0100", 20);
        changed("18 little", other(), 16, "12000000", 16);
        for (int size : new int[] {0, 17, 19, 20}) {
            changed("size " + size, other(), 16, Make.big(size, 4), 16);
        }
        Check.sentence("\"SSND\": size 8 more than its samples have bytes; 4: 0; 4: 0");
        fixed("size", other(), 42, 4);
        fixed("the first 0", other(), 46, 4);
        fixed("the second 0", other(), 50, 4);
    }

    private static void samplesOfComm() {
        Check.sentence("4: how many samples, 0 .. 64");
        Reading.reads("0 samples", Make.other(Make.comm(0, 16, 8000) + Make.ssnd("")), 4, "8000:");
        Reading.reads("64 samples", Make.other(Make.comm(64, 16, 8000) + Make.ssnd("0004".repeat(64))), 4,
            "8000:" + " 4".repeat(64));
        Reading.fails("65 samples", Make.other(Make.comm(65, 16, 8000) + Make.ssnd("0004".repeat(65))), 22);
        Reading.fails("65 samples of a byte", Make.other(Make.comm(65, 8, 8000) + Make.ssnd("04".repeat(65))), 22);
        for (long samples : new long[] {66, 256, 1 << 24, 1L << 31, (1L << 32) - 1}) {
            Reading.fails(samples + " samples", Make.other(Make.comm(samples, 16, 8000) + Make.ssnd("0004")), 22);
        }
    }

    private static void bitsOfComm() {
        Check.sentence("2: bits 1 .. 16");
        for (int bits = 1; bits <= 16; bits++) {
            Reading.reads(bits + " bits", Make.other(Make.comm(1, bits, 8000) + Make.ssnd(bits <= 8 ? "80" : "8000")), 4,
                "8000: -32768");
        }
        for (int bits : new int[] {0, 17, 18, 24, 32, 256 + 8, 32768, 65535}) {
            Reading.fails(bits + " bits", Make.other(Make.comm(1, bits, 8000) + Make.ssnd("8000")), 26);
        }
    }

    private static void withRate(String label, String rate, int failing, String sound) {
        String bytes = Make.other("'COMM' 00000012 0001 00000000 0010" + rate + Make.ssnd(""));
        if (failing == SoundShelf.NONE) {
            Reading.reads(label, bytes, 4, sound);
        } else {
            Reading.fails(label, bytes, failing);
        }
    }

    private static void leastAndGreatestOfExponent() {
        Check.sentence("2 to the e is the greatest power of 2 that is not above the rate");
        for (int e = 0; e <= 17; e++) {
            long least = 1L << e;
            long greatest = Math.min(2 * least - 1, 192000);
            String exponent = Make.big(16383 + e, 2);
            withRate("the least of " + e, exponent + Make.big(1L << 63, 8), SoundShelf.NONE, least + ":");
            withRate("the greatest of " + e, exponent + Make.big(greatest << 63 - e, 8), SoundShelf.NONE, greatest + ":");
            withRate("less than the least of " + e, exponent + Make.big((1L << 63) - 1, 8), 30, "");
            withRate("half the least of " + e, exponent + Make.big(1L << 62, 8), 30, "");
            withRate("none of " + e, exponent + Make.big(0, 8), 30, "");
        }
    }

    private static void exponentOfRate() {
        Check.sentence("big 2: 16383 + e");
        for (int e = 0; e <= 17; e++) {
            withRate("16383 + " + e, Make.big(16383 + e, 2) + Make.big(1L << 63, 8), SoundShelf.NONE, (1 << e) + ":");
        }
        for (int exponent : new int[] {0, 1, 16382, 16401, 16402, 32767, 32768, 49151, 65535}) {
            for (long number : new long[] {1L << 63, 0, -1, 1}) {
                withRate("exponent " + exponent, Make.big(exponent, 2) + Make.big(number, 8), 28, "");
            }
        }
        SoundShelf shelf = Make.file(other());
        Make.over(shelf, 30, "8000000000000000");
        for (int exponent = 0; exponent < 65536; exponent++) {
            Make.over(shelf, 28, Make.big(exponent, 2));
            Check.same("exponent " + exponent, shelf.read(), exponent < 16383 || exponent > 16400 ? 28 : SoundShelf.NONE);
        }
    }

    private static void numberOfRate() {
        Check.sentence("big 8: rate * 2 to the 63 - e");
        for (int e = 0; e <= 17; e++) {
            String exponent = Make.big(16383 + e, 2);
            long unit = 1L << 63 - e;
            withRate("half a unit of " + e, exponent + Make.big((1L << 63) + (unit >>> 1), 8), 30, "");
            withRate("the lowest bit of " + e, exponent + Make.big((1L << 63) + 1, 8), 30, "");
        }
        withRate("192000", "4010" + Make.big(192000L << 46, 8), SoundShelf.NONE, "192000:");
        withRate("192001", "4010" + Make.big(192001L << 46, 8), 30, "");
        withRate("191999", "4010" + Make.big(191999L << 46, 8), SoundShelf.NONE, "191999:");
        withRate("262143", "4010" + Make.big(262143L << 46, 8), 30, "");
        withRate("8000 little", "400b 00000000000000fa", 30, "");
    }

    private static void sizeOfSsnd() {
        Check.sentence("\"SSND\": size 8 more than its samples have bytes");
        for (int samples : new int[] {0, 1, 2, 63, 64}) {
            ssndOf(samples, 8, 1);
            ssndOf(samples, 9, 2);
            ssndOf(samples, 16, 2);
            ssndOf(samples, 1, 1);
        }
    }

    private static void ssndOf(int samples, int bits, int bytes) {
        String text = samples + " samples of " + bits + " bits";
        String comm = Make.comm(samples, bits, 8000);
        int due = samples * bytes;
        Reading.reads(text, Make.other(comm + Make.ssnd("00".repeat(due))), 4, "8000:" + " 0".repeat(samples));
        for (int more : new int[] {-2, -1, 1, 2}) {
            if (due + more >= 0) {
                Reading.fails(text + ", " + more + " more", Make.other(comm + Make.ssnd("00".repeat(due + more))), 42);
            }
        }
        Reading.fails(text + ", 8 less", Make.other(comm + "'SSND'" + Make.big(due, 4) + "00".repeat(due + 10)), 42);
    }
}
