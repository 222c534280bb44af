/** Promises 9 and 10: read and form, with files typed by hand. */
public final class ReadTest {
    private static final String PLAIN_BYTES = "'fmt ' 10000000 0100 0100 401f0000 401f0000 0100 0800";
    private static final String PLAIN_WORDS = "'fmt ' 10000000 0100 0100 401f0000 803e0000 0200 1000";
    private static final String STEPPED = "'fmt ' 14000000 1100 0100 401f0000 15340000 0500 0400 0200 0300";
    private static final String PREDICTED = "'fmt ' 32000000 0200 0100 401f0000 803e0000 0800 0400 2000 0400 0700"
        + "0001 0000 0002 00ff 0000 0000 c000 4000 f000 0000 cc01 30ff 8801 18ff";
    private static final String RATE = "400b fa00000000000000";
    private static final String ZEROS = "00000000 00000000";

    public static void main(String[] args) {
        plain();
        stepped();
        predicted();
        other();
        heads();
        order();
        passedOver();
        sizes();
        sizesOfFmt();
        ends();
        rates();
        longRates();
        facts();
        headersOfBlocks();
        otherNumbers();
        failingChangesNothing();
        formStays();
        Check.end();
    }

    private static SoundShelf reads(String label, String bytes, int form, String sound) {
        SoundShelf shelf = Make.file(bytes);
        Check.same(label + " read", shelf.read(), SoundShelf.NONE);
        Check.same(label, Check.state(shelf), sound + " | " + Make.hex(bytes) + " | " + form);
        return shelf;
    }

    private static void fails(String label, String bytes, int place) {
        SoundShelf shelf = Make.file(bytes);
        Check.same(label, shelf.read(), place);
        Check.same(label + " changes nothing", Check.state(shelf), "8000: | " + Make.hex(bytes) + " | none");
    }

    private static String fact(int samples) {
        return "'fact' 04000000" + Make.little(samples, 4);
    }

    private static String comm(int samples, int bits) {
        return "'COMM' 00000012 0001" + Make.big(samples, 4) + Make.big(bits, 2) + RATE;
    }

    private static void plain() {
        reads("bytes", Make.wave(PLAIN_BYTES + "'data' 04000000 00 7f 80 ff"), 0, "8000: -32768 -256 0 32512");
        reads("odd bytes", Make.wave(PLAIN_BYTES + "'data' 01000000 81 00"), 0, "8000: 256");
        reads("words", Make.wave(PLAIN_WORDS + "'data' 08000000 0080 ffff ff7f 0102"), 1, "8000: -32768 -1 32767 513");
        reads("none", Make.wave(PLAIN_WORDS + "'data' 00000000"), 1, "8000:");
        reads("64 bytes", Make.wave(PLAIN_BYTES + "'data' 40000000" + "80".repeat(64)), 0, "8000:" + " 0".repeat(64));
        reads("64 words", Make.wave(PLAIN_WORDS + "'data' 80000000" + "0100".repeat(64)), 1, "8000:" + " 1".repeat(64));
    }

    private static void stepped() {
        // Step 7: 11 more; then step 16 (index 8): 2 less.
        reads("stepped", Make.wave(STEPPED + fact(3) + "'data' 05000000 0000 00 00 87 00"), 2, "8000: 0 11 9");
        reads("a whole block, two samples", Make.wave(STEPPED + fact(2) + "'data' 05000000 0000 00 00 f7 00"), 2,
            "8000: 0 11");
        reads("index 88, cut", Make.wave(STEPPED + fact(3) + "'data' 05000000 0000 58 00 ff 00"), 2,
            "8000: 0 -32768 -32768");
        reads("index 88 stays", Make.wave(STEPPED + fact(3) + "'data' 05000000 0080 58 00 07 00"), 2,
            "8000: -32768 28668 32763");
        reads("index 0 stays", Make.wave(STEPPED + fact(3) + "'data' 05000000 0a00 00 00 42 00"), 2, "8000: 10 13 20");
        reads("two blocks", Make.wave(STEPPED + fact(4) + "'data' 0a000000 0000 00 00 87 ffff 0a 00 00"), 2,
            "8000: 0 11 9 -1");
        reads("none", Make.wave(STEPPED + fact(0) + "'data' 00000000"), 2, "8000:");
        reads("64", Make.wave(STEPPED + fact(64) + "'data' 6e000000" + "0100 00 00 00".repeat(22)), 2,
            "8000:" + " 1".repeat(64));
    }

    private static void predicted() {
        // The pair 1: twice the sample before less the one before that.
        reads("pair 1", Make.wave(PREDICTED + fact(4) + "'data' 08000000 01 1000 6400 0000 00"), 3,
            "8000: 0 100 200 300");
        reads("pair 0", Make.wave(PREDICTED + fact(4) + "'data' 08000000 00 1000 0500 0300 1f"), 3,
            "8000: 3 5 21 5");
        // 460 * -3 - 208 * 7 is -2836, which is -12 when shifted by 8; 460 * -12 + 208 * 3 is -4896, which is -20.
        reads("pair 5, shifted down", Make.wave(PREDICTED + fact(4) + "'data' 08000000 05 1000 fdff 0700 00"), 3,
            "8000: 7 -3 -12 -20");
        reads("one sample", Make.wave(PREDICTED + fact(1) + "'data' 08000000 06 0100 0900 feff ff"), 3, "8000: -2");
        reads("two samples", Make.wave(PREDICTED + fact(2) + "'data' 08000000 06 0100 0900 feff ff"), 3, "8000: -2 9");
        // 65535 is no -1; then delta is at most 32767, so that the second is 32767 less.
        reads("delta 65535", Make.wave(PREDICTED + fact(4) + "'data' 08000000 02 ffff 0000 0000 1f"), 3,
            "8000: 0 0 32767 -32767");
        // Delta 1 is used as it is, and becomes 16.
        reads("delta 1", Make.wave(PREDICTED + fact(4) + "'data' 08000000 02 0100 0000 0000 71"), 3, "8000: 0 0 7 16");
        reads("none", Make.wave(PREDICTED + fact(0) + "'data' 00000000"), 3, "8000:");
        reads("64", Make.wave(PREDICTED + fact(64) + "'data' 80000000" + "00 1000 0300 0300 00".repeat(16)), 3,
            "8000:" + " 3".repeat(64));
    }

    private static void other() {
        reads("16 bits", Make.other(comm(3, 16) + "'SSND' 0000000e" + ZEROS + "8000 ffff 7fff"), 4,
            "8000: -32768 -1 32767");
        reads("9 bits", Make.other(comm(2, 9) + "'SSND' 0000000c" + ZEROS + "ff80 0080"), 4, "8000: -128 128");
        reads("8 bits", Make.other(comm(3, 8) + "'SSND' 0000000b" + ZEROS + "80 ff 7f 00"), 4,
            "8000: -32768 -256 32512");
        reads("1 bit", Make.other(comm(2, 1) + "'SSND' 0000000a" + ZEROS + "80 00"), 4, "8000: -32768 0");
        reads("none", Make.other(comm(0, 3) + "'SSND' 00000008" + ZEROS), 4, "8000:");
        reads("64", Make.other(comm(64, 16) + "'SSND' 00000088" + ZEROS + "0002".repeat(64)), 4,
            "8000:" + " 2".repeat(64));
    }

    private static void heads() {
        fails("no file", "", 0);
        fails("half an id", "'RIF'", 0);
        fails("no such id", "'RIFX' 24000000 'WAVE'", 0);
        fails("small letters", "'riff' 24000000 'WAVE'", 0);
        fails("no number", "'RIFF'", 4);
        fails("half a number", "'FORM' 000000", 4);
        fails("a wrong number", "'RIFF' 05000000 'WAVE'", 4);
        fails("the number is big", "'RIFF' 00000004 'WAVE'", 4);
        fails("the number is little", "'FORM' 04000000 'AIFF'", 4);
        fails("no second id", "'RIFF' 00000000", 8);
        fails("half a second id", "'RIFF' 03000000 'WAV'", 8);
        fails("the other's id", "'RIFF' 04000000 'AIFF'", 8);
        fails("the wave's id", "'FORM' 00000004 'WAVE'", 8);
        fails("no chunk", "'RIFF' 04000000 'WAVE'", 12);
        fails("no chunk, other", "'FORM' 00000004 'AIFF'", 12);
    }

    private static void order() {
        String data = "'data' 00000000";
        String ssnd = "'SSND' 00000008" + ZEROS;
        fails("data before fmt", Make.wave(data + PLAIN_BYTES), 12);
        fails("data before fact, stepped", Make.wave(STEPPED + data), 40);
        fails("data before fact, predicted", Make.wave(PREDICTED + data), 70);
        fails("SSND before COMM", Make.other(ssnd + comm(0, 8)), 12);
        fails("fmt twice", Make.wave(PLAIN_BYTES + PLAIN_BYTES + data), 36);
        fails("fmt twice, and no more", Make.wave(PLAIN_BYTES + "'fmt '"), 36);
        fails("fmt behind fact", Make.wave(STEPPED + fact(0) + STEPPED + data), 52);
        fails("fact twice", Make.wave(STEPPED + fact(0) + fact(0) + data), 52);
        fails("COMM twice", Make.other(comm(0, 8) + comm(0, 8) + ssnd), 38);
        fails("fmt alone", Make.wave(PLAIN_BYTES), 36);
        fails("fmt and fact alone", Make.wave(STEPPED + fact(0)), 52);
        fails("COMM alone", Make.other(comm(0, 8)), 38);
        fails("fact before fmt alone", Make.wave(fact(0) + STEPPED + data), 52);
    }

    private static void passedOver() {
        String data = "'data' 02000000 80 81";
        String due = "8000: 0 256";
        reads("before fmt", Make.wave("'LIST' 00000000" + PLAIN_BYTES + data), 0, due);
        reads("behind fmt", Make.wave(PLAIN_BYTES + "'LIST' 03000000 ffffff 00" + data), 0, due);
        reads("the same twice", Make.wave("'LIST' 00000000 'LIST' 01000000 1100" + PLAIN_BYTES + data), 0, due);
        reads("ids of the other file", Make.wave("'SSND' 00000000 'COMM' 02000000 1111" + PLAIN_BYTES + data), 0, due);
        reads("RIFF and WAVE as chunks", Make.wave("'RIFF' 00000000 'WAVE' 00000000" + PLAIN_BYTES + data), 0, due);
        reads("ids of any bytes", Make.wave("ff80fe00 00000000 00000000 00000000" + PLAIN_BYTES + data), 0, due);
        reads("facts of a plain file", Make.wave(PLAIN_BYTES + "'fact' 00000000 'fact' 02000000 ffff" + data), 0, due);
        reads("fact before fmt", Make.wave("'fact' 01000000 ff 00" + STEPPED + fact(0) + "'data' 00000000"), 2, "8000:");
        reads("between fact and data", Make.wave(STEPPED + fact(1) + "'junk' 00000000 'data' 05000000 0000 00 00 00 00"),
            2, "8000: 0");
        reads("many", Make.wave("'junk' 00000000".repeat(42) + PLAIN_BYTES + "'data' 04000000 80 80 80 80"), 0,
            "8000: 0 0 0 0");
        reads("in the other file", Make.other("'fmt ' 00000001 0500" + comm(0, 8) + "'data' 00000000 'fact' 00000000"
            + "'SSND' 00000008" + ZEROS), 4, "8000:");
        fails("its byte behind is 1", Make.wave("'LIST' 03000000 ffffff 01" + PLAIN_BYTES + data), 23);
        fails("its byte behind is 255, other", Make.other("'LIST' 00000001 00 ff" + comm(0, 8)), 21);
        fails("too long", Make.wave("'LIST' 05000000 00000000"), 16);
        fails("no byte behind", Make.wave("'LIST' 03000000 000000"), 16);
        fails("much too long", Make.wave("'LIST' ffffffff 00000000"), 16);
        fails("too long by a sign", Make.wave("'LIST' 00000080 00000000"), 16);
        fails("no size", Make.wave("'LIST'"), 16);
        fails("half a size", Make.wave("'LIST' 0000"), 16);
        fails("half an id", Make.wave("'LIST' 02000000 0000 'da'"), 22);
        fails("nothing behind", Make.wave("'LIST' 02000000 0000"), 22);
    }

    private static void sizes() {
        fails("65 bytes", Make.wave(PLAIN_BYTES + "'data' 41000000" + "80".repeat(66)), 40);
        fails("65 words", Make.wave(PLAIN_WORDS + "'data' 82000000" + "8000".repeat(65)), 40);
        fails("half a word", Make.wave(PLAIN_WORDS + "'data' 03000000 01020300"), 40);
        fails("127 bytes of words", Make.wave(PLAIN_WORDS + "'data' 81000000" + "00".repeat(130)), 40);
        fails("data is too long", Make.wave(PLAIN_WORDS + "'data' 04000000 0102"), 40);
        fails("data without its byte", Make.wave(PLAIN_BYTES + "'data' 01000000 01"), 40);
        fails("data of many bytes", Make.wave(PLAIN_BYTES + "'data' ffffffff 0102"), 40);
        fails("no size of data", Make.wave(PLAIN_BYTES + "'data'"), 40);
        fails("half a size of data", Make.wave(PLAIN_WORDS + "'data' 000000"), 40);
        fails("a block too few", Make.wave(STEPPED + fact(4) + "'data' 05000000 0000 00 00 00 00"), 56);
        fails("a block too many", Make.wave(STEPPED + fact(3) + "'data' 0a000000" + "0000 00 00 00".repeat(2)), 56);
        fails("no blocks at all", Make.wave(PREDICTED + fact(1) + "'data' 00000000"), 86);
        fails("no size of blocks", Make.wave(STEPPED + fact(0) + "'data'"), 56);
        fails("fact of 3", Make.wave(STEPPED + "'fact' 03000000 000000 00 'data' 00000000"), 44);
        fails("fact of 5", Make.wave(STEPPED + "'fact' 05000000 0000000000 00 'data' 00000000"), 44);
        fails("fact is too long", Make.wave(STEPPED + "'fact' 04000000 000000"), 44);
        fails("COMM of 17", Make.other("'COMM' 00000011 0001 00000000 0008" + RATE), 16);
        fails("COMM of 19", Make.other("'COMM' 00000013 0001 00000000 0008" + RATE + "0000"), 16);
        fails("COMM is too long", Make.other("'COMM' 00000012 0001 00000000 0008 400b fa000000000000"), 16);
        fails("COMM with little size", Make.other("'COMM' 12000000 0001 00000000 0008" + RATE), 16);
        fails("SSND of 9", Make.other(comm(2, 8) + "'SSND' 00000009" + ZEROS + "0000"), 42);
        fails("SSND of 11", Make.other(comm(2, 8) + "'SSND' 0000000b" + ZEROS + "00000000"), 42);
        fails("SSND is too long", Make.other(comm(2, 16) + "'SSND' 0000000c" + ZEROS + "000000"), 42);
        fails("SSND without its byte", Make.other(comm(1, 8) + "'SSND' 00000009" + ZEROS + "00"), 42);
        fails("no size of SSND", Make.other(comm(1, 8) + "'SSND' 0000"), 42);
    }

    private static void sizesOfFmt() {
        for (int size : new int[] {0, 1, 15, 17, 18, 19, 21, 40, 49, 51, 52, 100, -1}) {
            fails("fmt of " + size, Make.wave("'fmt '" + Make.little(size, 4) + "0100 0100" + "00".repeat(120)), 16);
        }
        fails("fmt is too long", Make.wave("'fmt ' 10000000 0100 0100 401f0000 401f0000 0100 08"), 16);
        fails("fmt of 50 is too long", Make.wave("'fmt ' 32000000 0200" + "00".repeat(47)), 16);
        fails("no size of fmt", Make.wave("'fmt '"), 16);
        fails("16 is not of tag 17", Make.wave("'fmt ' 10000000 1100" + "00".repeat(60)), 20);
        fails("16 is not of tag 2", Make.wave("'fmt ' 10000000 0200" + "00".repeat(60)), 20);
        fails("20 is not of tag 1", Make.wave("'fmt ' 14000000 0100" + "00".repeat(60)), 20);
        fails("50 is not of tag 17", Make.wave("'fmt ' 32000000 1100" + "00".repeat(60)), 20);
        fails("tag 257", Make.wave("'fmt ' 10000000 0101" + "00".repeat(60)), 20);
    }

    private static void ends() {
        fails("a byte more", Make.wave(PLAIN_BYTES + "'data' 02000000 8080 00"), 46);
        fails("a byte more behind the byte 0", Make.wave(PLAIN_BYTES + "'data' 01000000 80 00 00"), 46);
        fails("a chunk more", Make.wave(PLAIN_BYTES + "'data' 00000000 'LIST' 00000000"), 44);
        fails("data twice", Make.wave(PLAIN_BYTES + "'data' 00000000 'data' 00000000"), 44);
        fails("the byte 0 is 7", Make.wave(PLAIN_BYTES + "'data' 01000000 80 07"), 45);
        fails("the byte 0 is 7, and a byte more", Make.wave(PLAIN_BYTES + "'data' 01000000 80 07 00"), 45);
        fails("blocks, the byte 0 is 1", Make.wave(STEPPED + fact(1) + "'data' 05000000 0000 00 00 00 01"), 65);
        fails("blocks, a byte more", Make.wave(PREDICTED + fact(1) + "'data' 08000000 00 1000 0000 0000 00 00"), 98);
        fails("SSND, the byte 0 is 1", Make.other(comm(1, 8) + "'SSND' 00000009" + ZEROS + "00 01"), 55);
        fails("SSND, a chunk more", Make.other(comm(1, 8) + "'SSND' 00000009" + ZEROS + "00 00 'COMM'"), 56);
    }

    private static String plainOf(long rate, long speed) {
        return Make.wave("'fmt ' 10000000 0100 0100" + Make.little(rate, 4) + Make.little(speed, 4)
            + "0200 1000 'data' 00000000");
    }

    private static void rates() {
        reads("rate 1", plainOf(1, 2), 1, "1:");
        reads("rate 192000", plainOf(192000, 384000), 1, "192000:");
        fails("rate 0", plainOf(0, 0), 24);
        fails("rate 192001", plainOf(192001, 384002), 24);
        fails("rate below 0", plainOf(-1, -2), 24);
        fails("bytes a second", plainOf(8000, 15999), 28);
        fails("bytes a second of another align", plainOf(8000, 8000), 28);
        fails("rate rounded", Make.wave(STEPPED.replace("15340000", "16340000") + fact(0) + "'data' 00000000"), 28);
        fails("two channels", Make.wave(PLAIN_WORDS.replace("0100 0100", "0100 0200")), 22);
        fails("align 0", Make.wave(PLAIN_BYTES.replace("0100 0800", "0000 0000")), 32);
        fails("align 3", Make.wave(PLAIN_BYTES.replace("0100 0800", "0300 1800")), 32);
        fails("16 bits in one byte", Make.wave(PLAIN_BYTES.replace("0100 0800", "0100 1000")), 34);
        fails("align before bytes a second", Make.wave("'fmt ' 10000000 0100 0100 401f0000 00000000 0000 0800"), 32);
        fails("bits before bytes a second", Make.wave("'fmt ' 10000000 0100 0100 401f0000 00000000 0100 0900"), 34);
        fails("stepped, align 4", Make.wave(STEPPED.replace("0500 0400", "0400 0400")), 32);
        fails("stepped, align 13", Make.wave(STEPPED.replace("0500 0400", "0d00 0400")), 32);
        fails("stepped, align 6", Make.wave(STEPPED.replace("0500 0400", "0600 0400")), 38);
        fails("stepped, 8 bits", Make.wave(STEPPED.replace("0500 0400", "0500 0800")), 34);
        fails("stepped, 3 more", Make.wave(STEPPED.replace("0200 0300", "0300 0300")), 36);
        fails("stepped, P", Make.wave(STEPPED.replace("0200 0300", "0200 0400")), 38);
        fails("P before bytes a second", Make.wave(STEPPED.replace("0200 0300", "0200 0400").replace("15", "16")), 38);
        fails("predicted, align 7", Make.wave(PREDICTED.replace("0800 0400 2000", "0700 0400 2000")), 32);
        fails("predicted, align 16", Make.wave(PREDICTED.replace("0800 0400 2000", "1000 0400 2000")), 32);
        fails("predicted, 31 more", Make.wave(PREDICTED.replace("2000 0400", "1f00 0400")), 36);
        fails("predicted, P", Make.wave(PREDICTED.replace("2000 0400", "2000 0500")), 38);
        fails("predicted, 6 pairs", Make.wave(PREDICTED.replace("0400 0700", "0400 0600")), 40);
        fails("predicted, the last number", Make.wave(PREDICTED.replace("18ff", "18fe")), 68);
        fails("a pair before bytes a second", Make.wave(PREDICTED.replace("18ff", "18fe").replace("803e", "813e")), 68);
    }

    private static String otherOf(String rate) {
        return Make.other("'COMM' 00000012 0001 00000000 0010" + rate + "'SSND' 00000008" + ZEROS);
    }

    private static void longRates() {
        reads("rate 1", otherOf("3fff 8000000000000000"), 4, "1:");
        reads("rate 3", otherOf("4000 c000000000000000"), 4, "3:");
        reads("rate 131071", otherOf("400f ffff800000000000"), 4, "131071:");
        reads("rate 192000", otherOf("4010 bb80000000000000"), 4, "192000:");
        fails("rate 192001", otherOf("4010 bb80400000000000"), 30);
        fails("rate 262143", otherOf("4010 ffffc00000000000"), 30);
        fails("rate 262144", otherOf("4011 8000000000000000"), 28);
        fails("rate a half", otherOf("3ffe 8000000000000000"), 28);
        fails("rate 0", otherOf("0000 0000000000000000"), 28);
        fails("below 0", otherOf("bfff 8000000000000000"), 28);
        fails("one and a half", otherOf("3fff c000000000000000"), 30);
        fails("a little more than 1", otherOf("3fff 8000000000000001"), 30);
        fails("the highest bit is missing", otherOf("4000 4000000000000000"), 30);
        fails("nothing behind the exponent", otherOf("4000 0000000000000000"), 30);
        fails("131071 and a half", otherOf("400f ffffc00000000000"), 30);
    }

    private static void facts() {
        fails("fact 65", Make.wave(STEPPED + fact(65) + "'data' 6e000000" + "0000 00 00 00".repeat(22)), 48);
        fails("fact -1", Make.wave(STEPPED + fact(-1) + "'data' 00000000"), 48);
        fails("fact big", Make.wave(STEPPED + "'fact' 04000000 00000001 'data' 05000000 0000 00 00 00 00"), 48);
        reads("fact 64, predicted", Make.wave(PREDICTED + fact(64) + "'data' 80000000" + "00 1000 0000 0000 00".repeat(16)),
            3, "8000:" + " 0".repeat(64));
    }

    private static void headersOfBlocks() {
        String whole = "0000 00 00 00";
        fails("index 89", Make.wave(STEPPED + fact(1) + "'data' 05000000 0000 59 00 00 00"), 62);
        fails("index 255", Make.wave(STEPPED + fact(4) + "'data' 0a000000" + whole + "0000 ff 00 00"), 67);
        fails("no 0 behind it", Make.wave(STEPPED + fact(4) + "'data' 0a000000" + whole + "0000 00 01 00"), 68);
        fails("index before the byte 0", Make.wave(STEPPED + fact(1) + "'data' 05000000 0000 59 01 00 07"), 62);
        fails("pair 7", Make.wave(PREDICTED + fact(1) + "'data' 08000000 07 0000 0000 0000 00"), 90);
        fails("delta 0", Make.wave(PREDICTED + fact(1) + "'data' 08000000 06 0000 0000 0000 00"), 91);
        fails("the second pair", Make.wave(PREDICTED + fact(5) + "'data' 10000000 00 1000 0000 0000 00"
            + "ff 1000 0000 0000 00"), 98);
        fails("the second delta", Make.wave(PREDICTED + fact(5) + "'data' 10000000 00 1000 0000 0000 00"
            + "00 0000 0000 0000 00"), 99);
    }

    private static void otherNumbers() {
        fails("two channels", Make.other("'COMM' 00000012 0002 00000000 0010" + RATE), 20);
        fails("65 samples", Make.other("'COMM' 00000012 0001 00000041 0010" + RATE), 22);
        fails("many samples", Make.other("'COMM' 00000012 0001 ffffffff 0010" + RATE), 22);
        fails("no bits", Make.other("'COMM' 00000012 0001 00000000 0000" + RATE), 26);
        fails("17 bits", Make.other("'COMM' 00000012 0001 00000000 0011" + RATE), 26);
        fails("the first 0", Make.other(comm(0, 8) + "'SSND' 00000008 00000001 00000000"), 46);
        fails("the second 0", Make.other(comm(0, 8) + "'SSND' 00000008 00000000 01000000"), 50);
        fails("a lower bit", Make.other(comm(2, 7) + "'SSND' 0000000a" + ZEROS + "fe 01"), 55);
        fails("lower bits of two bytes", Make.other(comm(2, 9) + "'SSND' 0000000c" + ZEROS + "ff80 0040"), 56);
        fails("the highest lower bit", Make.other(comm(1, 1) + "'SSND' 00000009" + ZEROS + "40 00"), 54);
        fails("a lower bit before the byte 0", Make.other(comm(1, 7) + "'SSND' 00000009" + ZEROS + "01 01"), 54);
    }

    private static void failingChangesNothing() {
        SoundShelf shelf = Make.sound(44100, 1, 2, 3);
        shelf.write(1, 0);
        shelf.read();
        shelf.clear();
        shelf.add(77);
        shelf.tune(5);
        shelf.write(4, 16);
        shelf.add(78);
        shelf.poke(38, 0);
        String before = Check.state(shelf);
        Check.same("fails at its end", shelf.read(), 56);
        Check.same("and changes nothing", Check.state(shelf), before);
        shelf.poke(38, 'S');
        Check.same("reads again", shelf.read(), SoundShelf.NONE);
        Check.same("the file's sound", Check.soundOf(shelf), "5: 77");
        Check.same("the file's form", shelf.form(), 4);
    }

    private static void formStays() {
        SoundShelf shelf = Make.sound(8000, 1, 2, 3);
        for (int form = 0; form < 5; form++) {
            shelf.write(form, 5);
            Check.same("read " + form, shelf.read(), SoundShelf.NONE);
            Check.same("form " + form, shelf.form(), form);
            shelf.write((form + 1) % 5, 5);
            Check.same("form stays when written", shelf.form(), form);
            shelf.cut(3);
            Check.same("fails", shelf.read(), 0);
            Check.same("form stays when failed", shelf.form(), form);
            shelf.clear();
            Check.same("form stays when cleared", shelf.form(), form);
        }
    }
}
