/** Promise 8: write, with files whose every byte was worked out by hand. */
public final class WriteTest {
    public static void main(String[] args) {
        plain();
        stepped();
        steppedTies();
        predicted();
        predictedTies();
        other();
        longRates();
        noSamples();
        largest();
        inPlaceOfWhatWas();
        wrongArguments();
        Check.end();
    }

    private static void due(String label, SoundShelf shelf, int form, int size, String bytes) {
        String hex = Make.hex(bytes);
        Check.same(label + " answer", shelf.write(form, size), hex.length() / 2);
        Check.same(label + " size", shelf.size(), hex.length() / 2);
        Check.same(label, Check.hexOf(shelf), hex);
    }

    /** The bytes of "data" alone; what stands before them is looked at elsewhere. */
    private static void dataDue(String label, SoundShelf shelf, int form, int size, String bytes) {
        String hex = Make.hex(bytes);
        shelf.write(form, size);
        Check.same(label, Check.hexOf(shelf).substring(form == 2 ? 120 : 180), hex);
    }

    private static void plain() {
        SoundShelf shelf = Make.sound(8000, 0, -32768, 32767);
        due("bytes", shelf, 0, 99, "'RIFF' 28000000 'WAVE' 'fmt ' 10000000 0100 0100 401f0000 401f0000 0100 0800"
            + "'data' 03000000 80 00 ff 00");
        due("words", shelf, 1, -5, "'RIFF' 2a000000 'WAVE' 'fmt ' 10000000 0100 0100 401f0000 803e0000 0200 1000"
            + "'data' 06000000 0000 0080 ff7f");
        due("bytes, even", Make.sound(192000, -1, 255, 256, -257), 0, 0,
            "'RIFF' 28000000 'WAVE' 'fmt ' 10000000 0100 0100 00ee0200 00ee0200 0100 0800"
            + "'data' 04000000 7f 80 81 7e");
        due("words, fast", Make.sound(192000, -2), 1, 0,
            "'RIFF' 26000000 'WAVE' 'fmt ' 10000000 0100 0100 00ee0200 00dc0500 0200 1000 'data' 02000000 feff");
    }

    private static void stepped() {
        due("stepped", Make.sound(8000, 0, 11, 11, 50), 2, 1,
            "'RIFF' 3e000000 'WAVE' 'fmt ' 14000000 1100 0100 401f0000 15340000 0500 0400 0200 0300"
            + "'fact' 04000000 04000000 'data' 0a000000 0000 00 00 07 3200 07 00 00");
        due("stepped, odd", Make.sound(1, -2), 2, 1,
            "'RIFF' 3a000000 'WAVE' 'fmt ' 14000000 1100 0100 01000000 01000000 0500 0400 0200 0300"
            + "'fact' 04000000 01000000 'data' 05000000 feff 00 00 00 00");
        due("stepped, wide", Make.sound(44100, 7), 2, 8,
            "'RIFF' 40000000 'WAVE' 'fmt ' 14000000 1100 0100 44ac0000 99790000 0c00 0400 0200 1100"
            + "'fact' 04000000 01000000 'data' 0c000000 0700 00 00" + "00".repeat(8));
        // 7 lifts by 11, then by 2 + 4 + 8 + 16, each time with 8 steps more; 15 lowers.
        dataDue("stepped, up and down", Make.sound(8000, 0, 500, 500, -500, -500, 9), 2, 2,
            "0000 00 00 77 ff" + "0900 20 00 00 00");
    }

    private static void steppedTies() {
        // With step 7 the nibbles 4 .. 7 all come to 32767: the least of them is taken.
        dataDue("cut above", Make.sound(8000, 32760, 32767), 2, 1, "f87f 00 00 04 00");
        dataDue("cut below", Make.sound(8000, -32761, -32768), 2, 1, "0780 00 00 0c 00");
        // 0 and 8 both add nothing with step 7.
        dataDue("no difference", Make.sound(8000, 5, 5, 5), 2, 1, "0500 00 00 00 00");
        // 1 and 2 are as far from 2 (1 and 3 are added): the least.
        dataDue("between", Make.sound(8000, 0, 2), 2, 1, "0000 00 00 01 00");
        // The index never falls below 0: the steps of the second block are those of the first.
        dataDue("index at 0", Make.sound(8000, 0, 0, 0, 0, 7), 2, 1, "0000 00 00 00 0000 00 00 04");
        // 7 comes to 11 itself and to index 8, whose step is 16: then 0 (2 more) is as near as 8 (2 less).
        dataDue("least of two sides", Make.sound(8000, 0, 11, 11), 2, 1, "0000 00 00 07 00");
    }

    private static void predicted() {
        due("predicted", Make.sound(8000, 0, 100, 200, 300, 5), 3, 1,
            "'RIFF' 62000000 'WAVE' 'fmt ' 32000000 0200 0100 401f0000 803e0000 0800 0400 2000 0400 0700"
            + "0001 0000 0002 00ff 0000 0000 c000 4000 f000 0000 cc01 30ff 8801 18ff"
            + "'fact' 04000000 05000000 'data' 10000000"
            + "01 1000 6400 0000 00" + "00 1000 0500 0500 00");
        due("predicted, odd", Make.sound(11025, -3, 4), 3, 2,
            "'RIFF' 5c000000 'WAVE' 'fmt ' 32000000 0200 0100 112b0000 99400000 0900 0400 2000 0600 0700"
            + "0001 0000 0002 00ff 0000 0000 c000 4000 f000 0000 cc01 30ff 8801 18ff"
            + "'fact' 04000000 02000000 'data' 09000000"
            + "00 1000 0400 fdff 0000 00");
        // 7 lifts by 112, delta becomes 38; twice that and 7 times 38 are nearest with the pair 1; delta becomes 91.
        dataDue("delta grows", Make.sound(8000, 0, 0, 1000, 1000, 3), 3, 1,
            "01 1000 0000 0000 77" + "00 5b00 0300 0300 00");
        // The high nibble is the first one: 1, then 15 (which is -1).
        dataDue("high first", Make.sound(8000, 0, 0, 16, 0), 3, 1, "00 1000 0000 0000 1f");
    }

    private static void predictedTies() {
        dataDue("all pairs alike", Make.sound(8000, 0, 0, 0, 0), 3, 1, "00 1000 0000 0000 00");
        // 8 is as far from 0 as from 16, -8 as far from 0 as from -16.
        dataDue("between", Make.sound(8000, 0, 0, 8), 3, 1, "00 1000 0000 0000 00");
        dataDue("between, below", Make.sound(8000, 0, 0, -8), 3, 1, "00 1000 0000 0000 00");
        dataDue("cut above", Make.sound(8000, 32767, 32767, 32767, 32767), 3, 1, "00 1000 ff7f ff7f 00");
        dataDue("cut below", Make.sound(8000, -32768, -32768, -32768, -32768), 3, 1, "00 1000 0080 0080 00");
        // No sample of the sound is there for the second nibble: it is 0, and counts for no pair.
        dataDue("no other sample", Make.sound(8000, 0, 100, 200), 3, 1, "01 1000 6400 0000 00");
    }

    private static void other() {
        SoundShelf shelf = Make.sound(44100, 0, -32768, 32767, -1, 2048);
        String head = "'AIFF' 'COMM' 00000012 0001 00000005";
        String rate = "400e ac44000000000000";
        due("16 bits", shelf, 4, 16, "'FORM' 00000038" + head + "0010" + rate
            + "'SSND' 00000012 00000000 00000000 0000 8000 7fff ffff 0800");
        due("12 bits", shelf, 4, 12, "'FORM' 00000038" + head + "000c" + rate
            + "'SSND' 00000012 00000000 00000000 0000 8000 7ff0 fff0 0800");
        due("9 bits", shelf, 4, 9, "'FORM' 00000038" + head + "0009" + rate
            + "'SSND' 00000012 00000000 00000000 0000 8000 7f80 ff80 0800");
        due("8 bits", shelf, 4, 8, "'FORM' 00000034" + head + "0008" + rate
            + "'SSND' 0000000d 00000000 00000000 00 80 7f ff 08 00");
        due("5 bits", shelf, 4, 5, "'FORM' 00000034" + head + "0005" + rate
            + "'SSND' 0000000d 00000000 00000000 00 80 78 f8 08 00");
        due("1 bit", shelf, 4, 1, "'FORM' 00000034" + head + "0001" + rate
            + "'SSND' 0000000d 00000000 00000000 00 80 00 80 00 00");
    }

    private static void longRates() {
        int[] rates = {1, 2, 3, 255, 256, 8000, 65535, 65536, 131071, 131072, 192000};
        String[] numbers = {
            "3fff8000", "40008000", "4000c000", "4006ff00", "40078000", "400bfa00", "400effff", "400f8000",
            "400fffff80", "40108000", "4010bb80",
        };
        for (int i = 0; i < rates.length; i++) {
            SoundShelf shelf = Make.sound(rates[i]);
            shelf.write(4, 16);
            String due = numbers[i] + "0".repeat(20 - numbers[i].length());
            Check.same("rate " + rates[i], Check.hexOf(shelf).substring(56, 76), due);
        }
    }

    private static void noSamples() {
        SoundShelf shelf = new SoundShelf();
        due("no bytes", shelf, 0, 0, "'RIFF' 24000000 'WAVE' 'fmt ' 10000000 0100 0100 401f0000 401f0000 0100 0800"
            + "'data' 00000000");
        Check.same("no words", shelf.write(1, 0), 44);
        Check.same("no steps", shelf.write(2, 3), 60);
        Check.same("nothing predicted", shelf.write(3, 3), 90);
        due("nothing other", shelf, 4, 7, "'FORM' 0000002e 'AIFF' 'COMM' 00000012 0001 00000000 0007"
            + "400b fa00000000000000 'SSND' 00000008 00000000 00000000");
    }

    private static void largest() {
        SoundShelf shelf = new SoundShelf();
        for (int i = 0; i < 64; i++) {
            shelf.add(i * 997 % 4001 - 2000);
        }
        Check.same("64 bytes", shelf.write(0, 0), 44 + 64);
        Check.same("64 words", shelf.write(1, 0), 44 + 128);
        Check.same("64 of 1 bit", shelf.write(4, 1), 54 + 64);
        Check.same("64 of 16 bits", shelf.write(4, 16), 54 + 128);
        for (int m = 1; m <= 8; m++) {
            int stepped = (64 + 2 * m) / (2 * m + 1) * (m + 4);
            Check.same("64 stepped " + m, shelf.write(2, m), 60 + stepped + stepped % 2);
            int predicted = (64 + 2 * m + 1) / (2 * m + 2) * (m + 7);
            Check.same("64 predicted " + m, shelf.write(3, m), 90 + predicted + predicted % 2);
        }
    }

    private static void inPlaceOfWhatWas() {
        SoundShelf shelf = Make.sound(8000, 1, 2);
        shelf.write(3, 8);
        Make.append(shelf, "0102030405");
        String sound = Check.soundOf(shelf);
        due("in place", shelf, 0, 0, "'RIFF' 26000000 'WAVE' 'fmt ' 10000000 0100 0100 401f0000 401f0000 0100 0800"
            + "'data' 02000000 80 80");
        Check.same("the sound stays", Check.soundOf(shelf), sound);
        Check.refused("nothing was read", shelf, IllegalStateException.class, shelf::form);
    }

    private static void wrongArguments() {
        SoundShelf shelf = Make.sound(8000, 1, 2);
        shelf.write(1, 0);
        shelf.read();
        int[][] wrong = {
            {-1, 1}, {5, 1}, {Integer.MIN_VALUE, 1}, {Integer.MAX_VALUE, 1}, {2, 0}, {2, 9}, {2, -1}, {3, 0}, {3, 9},
            {3, Integer.MIN_VALUE}, {4, 0}, {4, 17}, {4, -1}, {4, Integer.MAX_VALUE},
        };
        for (int[] pair : wrong) {
            Check.refused("write(" + pair[0] + ", " + pair[1] + ")", shelf, IllegalArgumentException.class,
                () -> shelf.write(pair[0], pair[1]));
        }
        for (int size : new int[] {Integer.MIN_VALUE, -1, 0, 17, Integer.MAX_VALUE}) {
            Check.same("bytes of any size", shelf.write(0, size), 46);
            Check.same("words of any size", shelf.write(1, size), 48);
        }
    }
}
