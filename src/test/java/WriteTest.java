/** Promise 8: write, with files whose bytes were worked out by hand, and its sentences one by one. */
public final class WriteTest {
    private static final int[] ENDS = {-32768, -32767, -257, -256, -255, -1, 0, 1, 255, 256, 257, 32766, 32767};

    public static void main(String[] args) {
        plain();
        stepped();
        steppedTies();
        predicted();
        predictedTies();
        other();
        longRates();
        noSamples();
        largest();
        everyPlainByte();
        everyPlainWord();
        everyNumberOfBits();
        numberBehindRiff();
        byteBehindOddSize();
        bytesASecond();
        blocksNeeded();
        firstOfHeader();
        secondOfHeader();
        indexGoesOn();
        deltaGoesOn();
        nibbleForNoSample();
        leastSumOfPairs();
        inPlaceOfWhatWas();
        formWithin();
        sizeWithin();
        sizeNotLookedAt();
        refusedChangesNothing();
        Check.end();
    }

    private static void due(String label, SoundShelf shelf, int form, int size, String bytes) {
        String hex = Make.hex(bytes);
        Check.same(label + " answer", shelf.write(form, size), hex.length() / 2);
        Check.same(label + " size", shelf.size(), hex.length() / 2);
        Check.same(label, Check.hexOf(shelf), hex);
    }

    /** The bytes of "data" alone; what stands before them is looked at elsewhere. */
    private static void dataDue(String label, SoundShelf shelf, int form, int size, String bytes) {
        String hex = Make.hex(bytes);
        shelf.write(form, size);
        Check.same(label, Check.hexOf(shelf).substring(form == 2 ? 120 : 180), hex);
    }

    private static void plain() {
        Check.sentence("Form 0: wave, plain, 8 bits; 1: 16 bits");
        SoundShelf shelf = Make.sound(8000, 0, -32768, 32767);
        due("bytes", shelf, 0, 99, "'RIFF' 28000000 'WAVE' 'fmt ' 10000000 0100 0100 401f0000 401f0000 0100 0800"
            + "'data' 03000000 80 00 ff 00");
        due("words", shelf, 1, -5, "'RIFF' 2a000000 'WAVE' 'fmt ' 10000000 0100 0100 401f0000 803e0000 0200 1000"
            + "'data' 06000000 0000 0080 ff7f");
        due("bytes, even", Make.sound(192000, -1, 255, 256, -257), 0, 0,
            "'RIFF' 28000000 'WAVE' 'fmt ' 10000000 0100 0100 00ee0200 00ee0200 0100 0800"
            + "'data' 04000000 7f 80 81 7e");
        due("words, fast", Make.sound(192000, -2), 1, 0,
            "'RIFF' 26000000 'WAVE' 'fmt ' 10000000 0100 0100 00ee0200 00dc0500 0200 1000 'data' 02000000 feff");
    }

    private static void stepped() {
        Check.sentence("2: stepped, size m");
        due("stepped", Make.sound(8000, 0, 11, 11, 50), 2, 1,
            "'RIFF' 3e000000 'WAVE' 'fmt ' 14000000 1100 0100 401f0000 15340000 0500 0400 0200 0300"
            + "'fact' 04000000 04000000 'data' 0a000000 0000 00 00 07 3200 07 00 00");
        due("stepped, odd", Make.sound(1, -2), 2, 1,
            "'RIFF' 3a000000 'WAVE' 'fmt ' 14000000 1100 0100 01000000 01000000 0500 0400 0200 0300"
            + "'fact' 04000000 01000000 'data' 05000000 feff 00 00 00 00");
        due("stepped, wide", Make.sound(44100, 7), 2, 8,
            "'RIFF' 40000000 'WAVE' 'fmt ' 14000000 1100 0100 44ac0000 99790000 0c00 0400 0200 1100"
            + "'fact' 04000000 01000000 'data' 0c000000 0700 00 00" + "00".repeat(8));
        // 7 lifts by 11, then by 2 + 4 + 8 + 16, each time with 8 steps more; 15 lowers.
        dataDue("stepped, up and down", Make.sound(8000, 0, 500, 500, -500, -500, 9), 2, 2,
            "0000 00 00 77 ff" + "0900 20 00 00 00");
    }

    private static void steppedTies() {
        Check.sentence("Each nibble is the one with which the next sample comes nearest to that of the sound, of several"
            + " the least");
        // With step 7 the nibbles 4 .. 7 all come to 32767: the least of them is taken.
        dataDue("cut above", Make.sound(8000, 32760, 32767), 2, 1, "f87f 00 00 04 00");
        dataDue("cut below", Make.sound(8000, -32761, -32768), 2, 1, "0780 00 00 0c 00");
        // 0 and 8 both add nothing with step 7.
        dataDue("no difference", Make.sound(8000, 5, 5, 5), 2, 1, "0500 00 00 00 00");
        // 1 and 2 are as far from 2 (1 and 3 are added): the least.
        dataDue("between", Make.sound(8000, 0, 2), 2, 1, "0000 00 00 01 00");
        // The index never falls below 0: the steps of the second block are those of the first.
        dataDue("index at 0", Make.sound(8000, 0, 0, 0, 0, 7), 2, 1, "0000 00 00 00 0000 00 00 04");
        // 7 comes to 11 itself and to index 8, whose step is 16: then 0 (2 more) is as near as 8 (2 less).
        dataDue("least of two sides", Make.sound(8000, 0, 11, 11), 2, 1, "0000 00 00 07 00");
    }

    private static void predicted() {
        Check.sentence("3: predicted, size m (1 .. 8 both)");
        due("predicted", Make.sound(8000, 0, 100, 200, 300, 5), 3, 1,
            "'RIFF' 62000000 'WAVE' 'fmt ' 32000000 0200 0100 401f0000 803e0000 0800 0400 2000 0400 0700"
            + "0001 0000 0002 00ff 0000 0000 c000 4000 f000 0000 cc01 30ff 8801 18ff"
            + "'fact' 04000000 05000000 'data' 10000000"
            + "01 1000 6400 0000 00" + "00 1000 0500 0500 00");
        due("predicted, odd", Make.sound(11025, -3, 4), 3, 2,
            "'RIFF' 5c000000 'WAVE' 'fmt ' 32000000 0200 0100 112b0000 99400000 0900 0400 2000 0600 0700"
            + "0001 0000 0002 00ff 0000 0000 c000 4000 f000 0000 cc01 30ff 8801 18ff"
            + "'fact' 04000000 02000000 'data' 09000000"
            + "00 1000 0400 fdff 0000 00");
        // 7 lifts by 112, delta becomes 38; twice that and 7 times 38 are nearest with the pair 1; delta becomes 91.
        dataDue("delta grows", Make.sound(8000, 0, 0, 1000, 1000, 3), 3, 1,
            "01 1000 0000 0000 77" + "00 5b00 0300 0300 00");
        // The high nibble is the first one: 1, then 15 (which is -1).
        dataDue("high first", Make.sound(8000, 0, 0, 16, 0), 3, 1, "00 1000 0000 0000 1f");
    }

    private static void predictedTies() {
        Check.sentence("Each nibble is the one with which the next sample comes nearest to that of the sound, of several"
            + " the least");
        dataDue("all pairs alike", Make.sound(8000, 0, 0, 0, 0), 3, 1, "00 1000 0000 0000 00");
        // 8 is as far from 0 as from 16, -8 as far from 0 as from -16.
        dataDue("between", Make.sound(8000, 0, 0, 8), 3, 1, "00 1000 0000 0000 00");
        dataDue("between, below", Make.sound(8000, 0, 0, -8), 3, 1, "00 1000 0000 0000 00");
        dataDue("cut above", Make.sound(8000, 32767, 32767, 32767, 32767), 3, 1, "00 1000 ff7f ff7f 00");
        dataDue("cut below", Make.sound(8000, -32768, -32768, -32768, -32768), 3, 1, "00 1000 0080 0080 00");
        // No sample of the sound is there for the second nibble: it is 0, and counts for no pair.
        dataDue("no other sample", Make.sound(8000, 0, 100, 200), 3, 1, "01 1000 6400 0000 00");
    }

    private static void other() {
        Check.sentence("4: the other one, size bits");
        SoundShelf shelf = Make.sound(44100, 0, -32768, 32767, -1, 2048);
        String head = "'AIFF' 'COMM' 00000012 0001 00000005";
        String rate = "400e ac44000000000000";
        due("16 bits", shelf, 4, 16, "'FORM' 00000038" + head + "0010" + rate
            + "'SSND' 00000012 00000000 00000000 0000 8000 7fff ffff 0800");
        due("12 bits", shelf, 4, 12, "'FORM' 00000038" + head + "000c" + rate
            + "'SSND' 00000012 00000000 00000000 0000 8000 7ff0 fff0 0800");
        due("9 bits", shelf, 4, 9, "'FORM' 00000038" + head + "0009" + rate
            + "'SSND' 00000012 00000000 00000000 0000 8000 7f80 ff80 0800");
        due("8 bits", shelf, 4, 8, "'FORM' 00000034" + head + "0008" + rate
            + "'SSND' 0000000d 00000000 00000000 00 80 7f ff 08 00");
        due("5 bits", shelf, 4, 5, "'FORM' 00000034" + head + "0005" + rate
            + "'SSND' 0000000d 00000000 00000000 00 80 78 f8 08 00");
        due("1 bit", shelf, 4, 1, "'FORM' 00000034" + head + "0001" + rate
            + "'SSND' 0000000d 00000000 00000000 00 80 00 80 00 00");
    }

    private static void longRates() {
        Check.sentence("big 2: 16383 + e; big 8: rate * 2 to the 63 - e, where 2 to the e is the greatest power of 2"
            + " that is not above the rate");
        int[] rates = {1, 2, 3, 255, 256, 8000, 65535, 65536, 131071, 131072, 192000};
        String[] numbers = {
            "3fff8000", "40008000", "4000c000", "4006ff00", "40078000", "400bfa00", "400effff", "400f8000",
            "400fffff80", "40108000", "4010bb80",
        };
        for (int i = 0; i < rates.length; i++) {
            SoundShelf shelf = Make.sound(rates[i]);
            shelf.write(4, 16);
            String due = numbers[i] + "0".repeat(20 - numbers[i].length());
            Check.same("rate " + rates[i], Check.hexOf(shelf).substring(56, 76), due);
        }
    }

    private static void noSamples() {
        Check.sentence("No samples, no file.");
        SoundShelf shelf = new SoundShelf();
        due("no bytes", shelf, 0, 0, "'RIFF' 24000000 'WAVE' 'fmt ' 10000000 0100 0100 401f0000 401f0000 0100 0800"
            + "'data' 00000000");
        Check.same("no words", shelf.write(1, 0), 44);
        Check.same("no steps", shelf.write(2, 3), 60);
        Check.same("nothing predicted", shelf.write(3, 3), 90);
        due("nothing other", shelf, 4, 7, "'FORM' 0000002e 'AIFF' 'COMM' 00000012 0001 00000000 0007"
            + "400b fa00000000000000 'SSND' 00000008 00000000 00000000");
    }

    private static void largest() {
        Check.sentence("A SOUND has at most 64 SAMPLES");
        SoundShelf shelf = new SoundShelf();
        for (int i = 0; i < 64; i++) {
            shelf.add(i * 997 % 4001 - 2000);
        }
        Check.same("64 bytes", shelf.write(0, 0), 44 + 64);
        Check.same("64 words", shelf.write(1, 0), 44 + 128);
        Check.same("64 of 1 bit", shelf.write(4, 1), 54 + 64);
        Check.same("64 of 16 bits", shelf.write(4, 16), 54 + 128);
        for (int m = 1; m <= 8; m++) {
            int stepped = (64 + 2 * m) / (2 * m + 1) * (m + 4);
            Check.same("64 stepped " + m, shelf.write(2, m), 60 + stepped + stepped % 2);
            int predicted = (64 + 2 * m + 1) / (2 * m + 2) * (m + 7);
            Check.same("64 predicted " + m, shelf.write(3, m), 90 + predicted + predicted % 2);
        }
    }

    private static void everyPlainByte() {
        Check.sentence("Plain, 8 bits: sample >> 8, and 128 more");
        for (int b = 0; b < 256; b++) {
            int least = 256 * (b - 128);
            SoundShelf shelf = Make.sound(8000, least, least + 1, least + 254, least + 255);
            shelf.write(0, 0);
            for (int k = 44; k < 48; k++) {
                Check.same("from " + least, shelf.byteAt(k), b);
            }
        }
    }

    private static void everyPlainWord() {
        Check.sentence("16 bits: little 2 with sign.");
        SoundShelf shelf = Make.sound(8000, ENDS);
        shelf.write(1, 0);
        for (int i = 0; i < ENDS.length; i++) {
            int low = shelf.byteAt(44 + 2 * i);
            Check.same("low byte of " + ENDS[i], low, Math.floorMod(ENDS[i], 256));
            Check.same("high byte of " + ENDS[i], shelf.byteAt(45 + 2 * i), Math.floorMod((ENDS[i] - low) / 256, 256));
        }
    }

    private static void everyNumberOfBits() {
        Check.sentence("SSND with b bits: sample >> 16 - b, as a number with sign of one byte (b up to 8) or big two,"
            + " times 2 to the number of bits that these have more than b");
        for (int bits = 1; bits <= 16; bits++) {
            int width = bits <= 8 ? 8 : 16;
            int unit = 1 << 16 - bits;
            for (int edge : new int[] {-32768, -32769 + unit, -unit - 1, -unit, -1, 0, unit - 1, unit, 32767}) {
                int sample = Math.max(-32768, Math.min(32767, edge));
                SoundShelf shelf = Make.sound(8000, sample);
                shelf.write(4, bits);
                long number = (long) Math.floorDiv(sample, unit) * (1 << width - bits);
                String due = Make.big(number, width / 8) + (width == 8 ? "00" : "");
                Check.same(sample + " of " + bits + " bits", Check.hexOf(shelf).substring(108), due);
            }
        }
    }

    private static SoundShelf ofMany(int many) {
        SoundShelf shelf = new SoundShelf();
        for (int i = 0; i < many; i++) {
            shelf.add(i * 997 % 4001 - 2000);
        }
        return shelf;
    }

    private static void numberBehindRiff() {
        Check.sentence("little 4: the number of bytes that follow");
        for (int many = 0; many <= 64; many++) {
            SoundShelf shelf = ofMany(many);
            for (int form = 0; form < 5; form++) {
                for (int size = 1; size <= 8; size++) {
                    int bytes = shelf.write(form, size);
                    String due = form == 4 ? Make.big(bytes - 8, 4) : Make.little(bytes - 8, 4);
                    Check.same("form " + form + ", size " + size, Check.hexOf(shelf).substring(8, 16), due);
                    Check.same("answer", bytes, shelf.size());
                }
            }
        }
    }

    private static void byteBehindOddSize() {
        Check.sentence("and a byte 0 if the size is odd");
        for (int many = 0; many <= 64; many++) {
            SoundShelf shelf = Make.sound(8000);
            for (int i = 0; i < many; i++) {
                shelf.add(-1);
            }
            Check.same(many + " bytes", shelf.write(0, 0), 44 + many + many % 2);
            if (many > 0) {
                Check.same("the last byte of " + many, shelf.byteAt(shelf.size() - 1), many % 2 == 0 ? 127 : 0);
            }
            Check.same(many + " words", shelf.write(1, 0), 44 + 2 * many);
            Check.same(many + " of 8 bits", shelf.write(4, 8), 54 + many + many % 2);
            if (many > 0) {
                Check.same("the last byte of " + many, shelf.byteAt(shelf.size() - 1), many % 2 == 0 ? 255 : 0);
            }
            Check.same(many + " of 9 bits", shelf.write(4, 9), 54 + 2 * many);
        }
    }

    private static void bytesASecond() {
        Check.sentence("Bytes a second are rate * align, for the tags 17 and 2 divided by P, rounded down.");
        for (int rate : new int[] {1, 2, 16, 17, 18, 8000, 44100, 191999, 192000}) {
            SoundShelf shelf = Make.sound(rate, 5);
            for (int m = 1; m <= 8; m++) {
                speedDue(shelf, 0, m, rate);
                speedDue(shelf, 1, m, 2L * rate);
                speedDue(shelf, 2, m, (long) rate * (m + 4) / (2 * m + 1));
                speedDue(shelf, 3, m, (long) rate * (m + 7) / (2 * m + 2));
            }
        }
    }

    private static void speedDue(SoundShelf shelf, int form, int size, long due) {
        shelf.write(form, size);
        String hex = Check.hexOf(shelf).substring(48, 64);
        Check.same("form " + form + ", size " + size, hex, Make.little(shelf.rate(), 4) + Make.little(due, 4));
    }

    private static void blocksNeeded() {
        Check.sentence("The last block is whole");
        for (int m = 1; m <= 8; m++) {
            for (int blocks = 1; blocks * (2 * m + 2) < 64; blocks++) {
                blocksDue(2, m, blocks * (2 * m + 1), blocks);
                blocksDue(2, m, blocks * (2 * m + 1) + 1, blocks + 1);
                blocksDue(3, m, blocks * (2 * m + 2), blocks);
                blocksDue(3, m, blocks * (2 * m + 2) + 1, blocks + 1);
            }
            blocksDue(2, m, 0, 0);
            blocksDue(2, m, 1, 1);
            blocksDue(3, m, 0, 0);
            blocksDue(3, m, 1, 1);
        }
    }

    private static void blocksDue(int form, int m, int many, int blocks) {
        SoundShelf shelf = ofMany(many);
        int bytes = blocks * (m + (form == 2 ? 4 : 7));
        String label = many + " samples, form " + form + ", size " + m;
        Check.same(label, shelf.write(form, m), (form == 2 ? 60 : 90) + bytes + bytes % 2);
        Check.same(label + " data", shelf.chunk(2, 2), bytes);
        Check.same(label + " fact", shelf.byteAt(form == 2 ? 48 : 78), many);
    }

    private static void firstOfHeader() {
        Check.sentence("the headers have the block's first sample");
        for (int sample : ENDS) {
            dataDue("stepped", Make.sound(8000, sample, sample, sample, sample), 2, 1,
                (Make.little(sample, 2) + "00 00 00").repeat(2));
        }
    }

    private static void secondOfHeader() {
        Check.sentence("(or two; the second is the first again if there is no other)");
        for (int first : ENDS) {
            for (int second : ENDS) {
                dataDue("two", Make.sound(8000, first, second), 3, 1,
                    "00 1000" + Make.little(second, 2) + Make.little(first, 2) + "00");
            }
            dataDue("one", Make.sound(8000, first), 3, 1, "00 1000" + Make.little(first, 2).repeat(2) + "00");
        }
        String block = "00 1000 0000 0000 00";
        dataDue("one in the second block", Make.sound(8000, 0, 0, 0, 0, 7), 3, 1, block + "00 1000 0700 0700 00");
        dataDue("two in the second block", Make.sound(8000, 0, 0, 0, 0, 7, 8), 3, 1, block + "00 1000 0800 0700 00");
    }

    private static void writesWhatWasRead(String label, String bytes, int form, int size) {
        SoundShelf shelf = Make.file(bytes);
        Check.same(label + " read", shelf.read(), SoundShelf.NONE);
        due(label, shelf, form, size, bytes);
    }

    private static void indexGoesOn() {
        Check.sentence("In a stepped block the index is 0 in the first one, and that with which the one before it ended"
            + " in others.");
        String fmt = Make.steppedFmt(8000, 8);
        // Eleven nibbles come to 88, and five more would lead above it.
        writesWhatWasRead("to 88", Make.wave(fmt + Make.fact(18)
            + Make.data("0000 00 00 f7f7f7f7f7c7c4c4" + "0500 58 00 0000000000000000")), 2, 8);
        writesWhatWasRead("to 87", Make.wave(fmt + Make.fact(18)
            + Make.data("0000 00 00 f7f7f7f7f7c7c4b4" + "0500 57 00 0000000000000000")), 2, 8);
        writesWhatWasRead("to 1", Make.wave(fmt + Make.fact(18)
            + Make.data("0000 00 00 0000000000000094" + "0500 01 00 0000000000000000")), 2, 8);
        writesWhatWasRead("not below 0", Make.wave(fmt + Make.fact(18)
            + Make.data("0000 00 00 0000000000000000" + "0500 00 00 0000000000000000")), 2, 8);
        writesWhatWasRead("on and on", Make.wave(Make.steppedFmt(8000, 1) + Make.fact(9)
            + Make.data("0000 00 00 f7" + "0500 10 00 7f" + "0600 20 00 91")), 2, 1);
    }

    private static void deltaGoesOn() {
        Check.sentence("In a predicted block delta is 16 in the first one, and that with which the one before ended in"
            + " others");
        // 7 lifts by 112 and makes 38 of 16, then by 266 and 91 of 38; the next block has that.
        dataDue("91", Make.sound(8000, 0, 0, 112, 378, 5), 3, 1, "00 1000 0000 0000 77" + "00 5b00 0500 0500 00");
        dataDue("16", Make.sound(8000, 0, 0, 0, 0, 5), 3, 1, "00 1000 0000 0000 00" + "00 1000 0500 0500 00");
        SoundShelf shelf = Make.sound(8000, 0, 0);
        for (int i = 0; i < 16; i++) {
            shelf.add(i % 2 == 0 ? 32767 : -32768);
        }
        // Of the nibbles that all come to -32768 the least is 8, which makes three times as much of delta at the end.
        shelf.add(5);
        shelf.write(3, 8);
        Check.same("32767", Check.hexOf(shelf).substring(210, 220), Make.hex("00 ff7f 0500"));
    }

    private static void nibbleForNoSample() {
        Check.sentence("for no sample it is 0");
        for (int many = 1; many <= 6; many++) {
            SoundShelf shelf = new SoundShelf();
            for (int i = 0; i < many; i++) {
                shelf.add(i % 2 == 0 ? 0 : 11);
            }
            shelf.write(2, 8);
            Check.same(many + " stepped", nibblesBehind(shelf, 64, many - 1, true), 0);
            shelf.write(3, 8);
            Check.same(many + " predicted", nibblesBehind(shelf, 97, Math.max(0, many - 2), false), 0);
        }
        dataDue("a low one alone", Make.sound(8000, 0, 11), 2, 1, "0000 00 00 07 00");
        dataDue("a high one alone", Make.sound(8000, 0, 0, 16), 3, 1, "00 1000 0000 0000 10");
    }

    private static int nibblesBehind(SoundShelf shelf, int place, int used, boolean lowFirst) {
        int sum = 0;
        for (int i = used; i < 16; i++) {
            int both = shelf.byteAt(place + i / 2);
            sum += (i % 2 == 0) == lowFirst ? both % 16 : both / 16;
        }
        return sum;
    }

    private static void leastSumOfPairs() {
        Check.sentence("the pair is the one for which the distances of all samples from the sound's come to the least sum"
            + " when nibbles are chosen like that, of several pairs the first");
        // What each pair foresees behind 1000 and 3000; no other pair comes near it.
        int[] foreseen = {3000, 5000, 0, 2500, 2812, 4578, 3687};
        for (int pair = 0; pair < foreseen.length; pair++) {
            dataDue("pair " + pair, Make.sound(8000, 1000, 3000, foreseen[pair]), 3, 1,
                Make.little(pair, 1) + "1000 b80b e803 00");
        }
        // Behind 3000 and 4000 the pairs 3 and 4 both foresee 3750.
        dataDue("3 before 4", Make.sound(8000, 3000, 4000, 3750), 3, 1, "03 1000 a00f b80b 00");
        // The pair 0 is off by 0 and 388, the pair 1 by 172 and 12, the pair 5 by 111 and 18.
        dataDue("the sum of both", Make.sound(8000, 0, 300, 300, 800), 3, 1, "05 1000 2c01 0000 86");
    }

    private static void inPlaceOfWhatWas() {
        Check.sentence("Writes the sound as the file, in place of what was there: how many bytes it has.");
        SoundShelf shelf = Make.sound(8000, 1, 2);
        String bytes = "'RIFF' 26000000 'WAVE' 'fmt ' 10000000 0100 0100 401f0000 401f0000 0100 0800"
            + "'data' 02000000 80 80";
        due("for none", shelf, 0, 0, bytes);
        due("for the same", shelf, 0, 0, bytes);
        shelf.write(3, 8);
        due("for a longer one", shelf, 0, 0, bytes);
        shelf.cut(1);
        due("for a shorter one", shelf, 0, 0, bytes);
        Make.append(shelf, "ff".repeat(400 - 46));
        due("for the longest", shelf, 0, 0, bytes);
        Check.same("the sound stays", Check.soundOf(shelf), "8000: 1 2");
        Check.refused("nothing was read", shelf, IllegalStateException.class, shelf::form);
    }

    private static SoundShelf shelfWithAll() {
        SoundShelf shelf = Make.sound(8000, 1, 2);
        shelf.write(1, 0);
        shelf.read();
        shelf.add(3);
        return shelf;
    }

    private static void refuses(int form, int size) {
        SoundShelf shelf = shelfWithAll();
        Check.refused("write(" + form + ", " + size + ")", shelf, IllegalArgumentException.class,
            () -> shelf.write(form, size));
    }

    private static void formWithin() {
        Check.sentence("IllegalArgumentException: form is not 0 .. 4");
        Check.same("the least", shelfWithAll().write(0, 1), 48);
        Check.same("the greatest", shelfWithAll().write(4, 1), 58);
        for (int form : new int[] {-1, 5, 6, 17, Integer.MIN_VALUE, Integer.MAX_VALUE}) {
            refuses(form, 1);
            refuses(form, 8);
            refuses(form, 0);
        }
    }

    private static void sizeWithin() {
        Check.sentence("or size not 1 .. 8 for 2 and 3, not 1 .. 16 for 4");
        Check.same("stepped, the least", shelfWithAll().write(2, 1), 66);
        Check.same("stepped, the greatest", shelfWithAll().write(2, 8), 72);
        Check.same("predicted, the least", shelfWithAll().write(3, 1), 98);
        Check.same("predicted, the greatest", shelfWithAll().write(3, 8), 106);
        Check.same("other, the least", shelfWithAll().write(4, 1), 58);
        Check.same("other, the greatest of one byte", shelfWithAll().write(4, 8), 58);
        Check.same("other, the least of two bytes", shelfWithAll().write(4, 9), 60);
        Check.same("other, the greatest", shelfWithAll().write(4, 16), 60);
        for (int size : new int[] {0, -1, 9, 16, Integer.MIN_VALUE, Integer.MAX_VALUE}) {
            refuses(2, size);
            refuses(3, size);
        }
        for (int size : new int[] {0, -1, 17, 24, Integer.MIN_VALUE, Integer.MAX_VALUE}) {
            refuses(4, size);
        }
    }

    private static void sizeNotLookedAt() {
        Check.sentence("(for 0 and 1 it is not looked at)");
        SoundShelf shelf = shelfWithAll();
        for (int size : new int[] {Integer.MIN_VALUE, -1, 0, 1, 8, 9, 16, 17, Integer.MAX_VALUE}) {
            Check.same("bytes of size " + size, shelf.write(0, size), 48);
            Check.same("words of size " + size, shelf.write(1, size), 50);
        }
    }

    private static void refusedChangesNothing() {
        Check.sentence("a call that throws changes nothing");
        SoundShelf shelf = shelfWithAll();
        String file = Check.hexOf(shelf);
        for (int[] wrong : new int[][] {{2, 0}, {3, 9}, {4, 17}, {5, 1}, {-1, 1}}) {
            Check.refused("write", shelf, IllegalArgumentException.class, () -> shelf.write(wrong[0], wrong[1]));
        }
        Check.same("the file", Check.hexOf(shelf), file);
        Check.same("it is read", shelf.read(), SoundShelf.NONE);
        Check.same("as it was written", Check.state(shelf), "8000: 1 2 | " + file + " | 1");
    }
}
