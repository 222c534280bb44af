/** Promises 9 and 10: read and form, with whole files typed by hand. */
public final class ReadTest {
    private static final String PLAIN_BYTES = "'fmt ' 10000000 0100 0100 401f0000 401f0000 0100 0800";
    private static final String PLAIN_WORDS = "'fmt ' 10000000 0100 0100 401f0000 803e0000 0200 1000";
    private static final String STEPPED = "'fmt ' 14000000 1100 0100 401f0000 15340000 0500 0400 0200 0300";
    private static final String PREDICTED = "'fmt ' 32000000 0200 0100 401f0000 803e0000 0800 0400 2000 0400 0700"
        + "0001 0000 0002 00ff 0000 0000 c000 4000 f000 0000 cc01 30ff 8801 18ff";
    private static final String RATE = "400b fa00000000000000";
    private static final String ZEROS = "00000000 00000000";

    public static void main(String[] args) {
        Check.sentence("Reads the file: NONE, and the sound is what it has from now on, rate and samples");
        plain();
        stepped();
        predicted();
        other();
        soundIsTheFiles();
        soundStaysWhenFailing();
        failsLate();
        fileStays();
        formOfLatest();
        formsOneAfterTheOther();
        formOfNone();
        readsWhatWasWritten();
        Check.end();
    }

    private static String fact(int samples) {
        return "'fact' 04000000" + Make.little(samples, 4);
    }

    private static String comm(int samples, int bits) {
        return "'COMM' 00000012 0001" + Make.big(samples, 4) + Make.big(bits, 2) + RATE;
    }

    private static void plain() {
        Reading.reads("bytes", Make.wave(PLAIN_BYTES + "'data' 04000000 00 7f 80 ff"), 0, "8000: -32768 -256 0 32512");
        Reading.reads("odd bytes", Make.wave(PLAIN_BYTES + "'data' 01000000 81 00"), 0, "8000: 256");
        Reading.reads("words", Make.wave(PLAIN_WORDS + "'data' 08000000 0080 ffff ff7f 0102"), 1,
            "8000: -32768 -1 32767 513");
        Reading.reads("none", Make.wave(PLAIN_WORDS + "'data' 00000000"), 1, "8000:");
        Reading.reads("64 bytes", Make.wave(PLAIN_BYTES + "'data' 40000000" + "80".repeat(64)), 0,
            "8000:" + " 0".repeat(64));
        Reading.reads("64 words", Make.wave(PLAIN_WORDS + "'data' 80000000" + "0100".repeat(64)), 1,
            "8000:" + " 1".repeat(64));
    }

    private static void stepped() {
        // Step 7: 11 more; then step 16 (index 8): 2 less.
        Reading.reads("stepped", Make.wave(STEPPED + fact(3) + "'data' 05000000 0000 00 00 87 00"), 2, "8000: 0 11 9");
        Reading.reads("a whole block, two samples", Make.wave(STEPPED + fact(2) + "'data' 05000000 0000 00 00 f7 00"), 2,
            "8000: 0 11");
        Reading.reads("index 88, cut", Make.wave(STEPPED + fact(3) + "'data' 05000000 0000 58 00 ff 00"), 2,
            "8000: 0 -32768 -32768");
        Reading.reads("index 88 stays", Make.wave(STEPPED + fact(3) + "'data' 05000000 0080 58 00 07 00"), 2,
            "8000: -32768 28668 32763");
        Reading.reads("index 0 stays", Make.wave(STEPPED + fact(3) + "'data' 05000000 0a00 00 00 42 00"), 2,
            "8000: 10 13 20");
        Reading.reads("two blocks", Make.wave(STEPPED + fact(4) + "'data' 0a000000 0000 00 00 87 ffff 0a 00 00"), 2,
            "8000: 0 11 9 -1");
        Reading.reads("none", Make.wave(STEPPED + fact(0) + "'data' 00000000"), 2, "8000:");
        Reading.reads("64", Make.wave(STEPPED + fact(64) + "'data' 6e000000" + "0100 00 00 00".repeat(22)), 2,
            "8000:" + " 1".repeat(64));
    }

    private static void predicted() {
        // The pair 1: twice the sample before less the one before that.
        Reading.reads("pair 1", Make.wave(PREDICTED + fact(4) + "'data' 08000000 01 1000 6400 0000 00"), 3,
            "8000: 0 100 200 300");
        Reading.reads("pair 0", Make.wave(PREDICTED + fact(4) + "'data' 08000000 00 1000 0500 0300 1f"), 3,
            "8000: 3 5 21 5");
        // 460 * -3 - 208 * 7 is -2836, which is -12 when shifted by 8; 460 * -12 + 208 * 3 is -4896, which is -20.
        Reading.reads("pair 5, shifted down", Make.wave(PREDICTED + fact(4) + "'data' 08000000 05 1000 fdff 0700 00"), 3,
            "8000: 7 -3 -12 -20");
        Reading.reads("one sample", Make.wave(PREDICTED + fact(1) + "'data' 08000000 06 0100 0900 feff ff"), 3,
            "8000: -2");
        Reading.reads("two samples", Make.wave(PREDICTED + fact(2) + "'data' 08000000 06 0100 0900 feff ff"), 3,
            "8000: -2 9");
        // 65535 is no -1; then delta is at most 32767, so that the second is 32767 less.
        Reading.reads("delta 65535", Make.wave(PREDICTED + fact(4) + "'data' 08000000 02 ffff 0000 0000 1f"), 3,
            "8000: 0 0 32767 -32767");
        // Delta 1 is used as it is, and becomes 16.
        Reading.reads("delta 1", Make.wave(PREDICTED + fact(4) + "'data' 08000000 02 0100 0000 0000 71"), 3,
            "8000: 0 0 7 16");
        Reading.reads("none", Make.wave(PREDICTED + fact(0) + "'data' 00000000"), 3, "8000:");
        Reading.reads("64", Make.wave(PREDICTED + fact(64) + "'data' 80000000" + "00 1000 0300 0300 00".repeat(16)), 3,
            "8000:" + " 3".repeat(64));
    }

    private static void other() {
        Reading.reads("16 bits", Make.other(comm(3, 16) + "'SSND' 0000000e" + ZEROS + "8000 ffff 7fff"), 4,
            "8000: -32768 -1 32767");
        Reading.reads("9 bits", Make.other(comm(2, 9) + "'SSND' 0000000c" + ZEROS + "ff80 0080"), 4, "8000: -128 128");
        Reading.reads("8 bits", Make.other(comm(3, 8) + "'SSND' 0000000b" + ZEROS + "80 ff 7f 00"), 4,
            "8000: -32768 -256 32512");
        Reading.reads("1 bit", Make.other(comm(2, 1) + "'SSND' 0000000a" + ZEROS + "80 00"), 4, "8000: -32768 0");
        Reading.reads("none", Make.other(comm(0, 3) + "'SSND' 00000008" + ZEROS), 4, "8000:");
        Reading.reads("64", Make.other(comm(64, 16) + "'SSND' 00000088" + ZEROS + "0002".repeat(64)), 4,
            "8000:" + " 2".repeat(64));
    }

    private static SoundShelf ofMany(int many) {
        SoundShelf shelf = new SoundShelf();
        for (int i = 0; i < many; i++) {
            shelf.add(i);
        }
        shelf.tune(99);
        return shelf;
    }

    private static void soundIsTheFiles() {
        Check.sentence("NONE, and the sound is what it has from now on, rate and samples");
        for (int before : new int[] {0, 1, 63, 64}) {
            for (int after : new int[] {0, 1, 63, 64}) {
                SoundShelf shelf = ofMany(before);
                Make.append(shelf, Make.wave(Make.plainFmt(192000, 1) + Make.data("81".repeat(after))));
                Check.same("read", shelf.read(), SoundShelf.NONE);
                Check.same(after + " for " + before, Check.soundOf(shelf), "192000:" + " 256".repeat(after));
                Check.same("read again", shelf.read(), SoundShelf.NONE);
                Check.same("again", Check.soundOf(shelf), "192000:" + " 256".repeat(after));
            }
        }
    }

    private static void soundStaysWhenFailing() {
        Check.sentence("or the place (from 0) at which it fails, and the sound (and what form() tells) stays");
        for (int many : new int[] {0, 1, 63, 64}) {
            SoundShelf shelf = ofMany(many);
            String before = Check.soundOf(shelf);
            Check.same("no file", shelf.read(), 0);
            Check.same("with no file", Check.soundOf(shelf) + Check.formOf(shelf), before + "none");
            Make.append(shelf, Make.wave(Make.plainFmt(192000, 1) + Make.data("81".repeat(5))));
            shelf.poke(49, 1);
            Check.same("the last byte", shelf.read(), 49);
            Check.same("with the last byte wrong", Check.soundOf(shelf) + Check.formOf(shelf), before + "none");
            shelf.poke(49, 0);
            Check.same("mended", shelf.read(), SoundShelf.NONE);
            Check.same("when mended", Check.soundOf(shelf) + Check.formOf(shelf), "192000:" + " 256".repeat(5) + "0");
        }
    }

    /** Most of the file has been taken when it fails, and still nothing of it is kept. */
    private static void failsLate() {
        Check.sentence("and the sound (and what form() tells) stays");
        String[] files = {
            Make.wave(STEPPED + fact(4) + "'data' 0a000000 0100 00 00 77 0100 59 00 77"),
            Make.wave(PREDICTED + fact(5) + "'data' 10000000 00 1000 0100 0100 77 07 1000 0100 0100 77"),
            Make.other(comm(2, 7) + "'SSND' 0000000a" + ZEROS + "02 01"),
            Make.other(comm(1, 8) + "'SSND' 00000009" + ZEROS + "02 01"),
            Make.wave(PLAIN_WORDS + "'data' 02000000 0100 00"),
        };
        int[] places = {67, 98, 55, 55, 46};
        for (int i = 0; i < files.length; i++) {
            Reading.fails("late", files[i], places[i]);
        }
    }

    private static void fileStays() {
        Check.sentence("Reads the file");
        for (int form = 0; form < 5; form++) {
            SoundShelf shelf = ofMany(9);
            shelf.write(form, 3);
            String file = Check.hexOf(shelf);
            Check.same("read", shelf.read(), SoundShelf.NONE);
            Check.same("form " + form, Check.hexOf(shelf), file);
        }
    }

    private static void formOfLatest() {
        Check.sentence("What form the file was that was read latest without failing, as for write().");
        SoundShelf shelf = Make.sound(8000, 1, 2, 3);
        for (int form = 0; form < 5; form++) {
            for (int size : new int[] {1, 8}) {
                shelf.write(form, size);
                Check.same("read " + form, shelf.read(), SoundShelf.NONE);
                Check.same("form " + form, shelf.form(), form);
                shelf.write((form + 1) % 5, 5);
                Check.same("when another is written", shelf.form(), form);
                shelf.cut(shelf.size() - 1);
                Check.same("fails", shelf.read(), 4);
                Check.same("when another fails", shelf.form(), form);
                shelf.clear();
                shelf.cut(0);
                Check.same("when all is gone", shelf.form(), form);
            }
        }
    }

    /** Nothing of a file that was written or read before, or that failed, is left for the next one. */
    private static void formsOneAfterTheOther() {
        for (int before = 0; before < 5; before++) {
            for (int after = 0; after < 5; after++) {
                SoundShelf shelf = ofMany(9);
                shelf.write(after, 3);
                String due = Check.hexOf(shelf);
                SoundShelf other = ofMany(9);
                other.write(before, 5);
                other.write(after, 3);
                Check.same(after + " written behind " + before, Check.hexOf(other), due);
                other.write(before, 5);
                Check.same("read " + before, other.read(), SoundShelf.NONE);
                other.poke(12, 0);
                int failed = other.read();
                Check.isTrue("fails", failed > 0);
                other.cut(0);
                Make.append(other, due);
                Check.same("read " + after, shelf.read(), SoundShelf.NONE);
                Check.same("read " + after + " behind " + before, other.read(), SoundShelf.NONE);
                Check.same(after + " read behind " + before, Check.state(other), Check.state(shelf));
            }
        }
    }

    private static void formOfNone() {
        Check.sentence("IllegalStateException: none was.");
        SoundShelf shelf = new SoundShelf();
        Check.refused("at first", shelf, IllegalStateException.class, shelf::form);
        shelf.write(4, 16);
        Check.refused("when written", shelf, IllegalStateException.class, shelf::form);
        shelf.poke(50, 1);
        Check.same("fails", shelf.read(), 50);
        Check.refused("when failed", shelf, IllegalStateException.class, shelf::form);
        shelf.poke(50, 0);
        Check.same("reads", shelf.read(), SoundShelf.NONE);
        Check.same("when read", shelf.form(), 4);
    }

    private static void readsWhatWasWritten() {
        Check.sentence("Reads the file: NONE");
        for (int many = 0; many <= 64; many++) {
            SoundShelf shelf = new SoundShelf();
            for (int i = 0; i < many; i++) {
                shelf.add((i * i * 37 % 256 - 128) * 256);
            }
            // Multiples of 256 are whole in these forms.
            String sound = Check.soundOf(shelf);
            for (int[] whole : new int[][] {{0, 0}, {1, 0}, {4, 8}, {4, 9}, {4, 15}, {4, 16}}) {
                shelf.write(whole[0], whole[1]);
                Check.same("read", shelf.read(), SoundShelf.NONE);
                Check.same("form " + whole[0] + ", size " + whole[1], Check.soundOf(shelf), sound);
            }
            for (int m = 1; m <= 8; m++) {
                readsAsMany(shelf, 2, m, many);
                readsAsMany(shelf, 3, m, many);
            }
        }
    }

    private static void readsAsMany(SoundShelf shelf, int form, int size, int many) {
        shelf.write(form, size);
        Check.same("read", shelf.read(), SoundShelf.NONE);
        Check.same("samples of form " + form + ", size " + size, shelf.samples(), many);
    }
}
