/** Promises 1 to 7, sentence by sentence: a new object, add, clear, samples, at, tune, rate. */
public final class SoundTest {
    public static void main(String[] args) {
        newObject();
        rateAtFirst();
        sampleMore();
        sampleWithin();
        sampleTooMany();
        sampleFirstOfTwo();
        clearTells();
        clearKeepsRate();
        howMany();
        sampleI();
        noSampleI();
        noSampleBehindRead();
        tuneTells();
        rateWithin();
        theRate();
        twoObjects();
        Check.end();
    }

    private static SoundShelf ofMany(int many) {
        SoundShelf shelf = new SoundShelf();
        for (int i = 0; i < many; i++) {
            shelf.add(i * 100 - 3000);
        }
        return shelf;
    }

    private static void newObject() {
        Check.sentence("No samples, no file.");
        SoundShelf shelf = new SoundShelf();
        Check.same("samples", shelf.samples(), 0);
        Check.same("size", shelf.size(), 0);
        Check.same("chunks", shelf.chunks(), 0);
        Check.same("clear", shelf.clear(), 0);
        Check.same("read", shelf.read(), 0);
        Check.refused("form", shelf, IllegalStateException.class, shelf::form);
        Check.refused("at(0)", shelf, IndexOutOfBoundsException.class, () -> shelf.at(0));
        Check.refused("byteAt(0)", shelf, IndexOutOfBoundsException.class, () -> shelf.byteAt(0));
        Check.refused("poke(0)", shelf, IndexOutOfBoundsException.class, () -> shelf.poke(0, 0));
        Check.refused("cut(1)", shelf, IllegalArgumentException.class, () -> shelf.cut(1));
        shelf.cut(0);
        Check.same("all", Check.state(shelf), "8000: |  | none");
        Check.same("the first sample", shelf.add(4), 1);
        Check.same("the first byte", shelf.type(4, 1), 1);
    }

    private static void rateAtFirst() {
        Check.sentence("a RATE, 1 .. 192000, at first 8000");
        Check.same("rate", new SoundShelf().rate(), 8000);
        Check.same("tune", new SoundShelf().tune(1), 8000);
    }

    private static void sampleMore() {
        Check.sentence("A sample more: how many there are.");
        SoundShelf shelf = new SoundShelf();
        int[] samples = {5, 5, 0, -1, 5};
        for (int i = 0; i < samples.length; i++) {
            Check.same("add", shelf.add(samples[i]), i + 1);
        }
        Check.same("all", Check.soundOf(shelf), "8000: 5 5 0 -1 5");
    }

    private static void sampleWithin() {
        Check.sentence("IllegalArgumentException: it is not -32768 .. 32767");
        SoundShelf shelf = new SoundShelf();
        Check.same("the least", shelf.add(-32768), 1);
        Check.same("the greatest", shelf.add(32767), 2);
        for (int sample : new int[] {-32769, 32768, -65536, 65535, 65536, Integer.MIN_VALUE, Integer.MAX_VALUE}) {
            Check.refused("add(" + sample + ")", shelf, IllegalArgumentException.class, () -> shelf.add(sample));
        }
        Check.same("behind the refused", shelf.add(1), 3);
        Check.same("all", Check.soundOf(shelf), "8000: -32768 32767 1");
    }

    private static void sampleTooMany() {
        Check.sentence("IllegalStateException: there are 64.");
        SoundShelf shelf = ofMany(62);
        Check.same("the 63rd", shelf.add(1), 63);
        Check.same("the 64th", shelf.add(2), 64);
        Check.refused("the 65th", shelf, IllegalStateException.class, () -> shelf.add(3));
        Check.refused("the 65th again", shelf, IllegalStateException.class, () -> shelf.add(-32768));
        Check.same("the last", shelf.at(63), 2);
        Check.same("clear", shelf.clear(), 64);
        Check.same("add again", shelf.add(7), 1);
        Check.same("at(0)", shelf.at(0), 7);
        sampleTooManyBehindRead();
    }

    private static void sampleTooManyBehindRead() {
        SoundShelf shelf = ofMany(64);
        shelf.write(1, 0);
        shelf.clear();
        shelf.read();
        Check.refused("the 65th behind 64 that were read", shelf, IllegalStateException.class, () -> shelf.add(3));
        SoundShelf other = ofMany(63);
        other.write(1, 0);
        other.read();
        Check.same("the 64th behind 63 that were read", other.add(3), 64);
    }

    private static void sampleFirstOfTwo() {
        Check.sentence("the one named first when several would do");
        SoundShelf shelf = ofMany(64);
        for (int sample : new int[] {-32769, 32768, Integer.MIN_VALUE, Integer.MAX_VALUE}) {
            Check.refused("add(" + sample + ")", shelf, IllegalArgumentException.class, () -> shelf.add(sample));
        }
    }

    private static void clearTells() {
        Check.sentence("No samples (the rate stays): how many there were.");
        for (int many : new int[] {0, 1, 63, 64}) {
            SoundShelf shelf = ofMany(many);
            Check.same("clear of " + many, shelf.clear(), many);
            Check.same("samples", shelf.samples(), 0);
            Check.refused("at(0)", shelf, IndexOutOfBoundsException.class, () -> shelf.at(0));
            Check.same("clear again", shelf.clear(), 0);
        }
    }

    private static void clearKeepsRate() {
        Check.sentence("(the rate stays)");
        SoundShelf shelf = Make.sound(11025, 1, 2, 3);
        shelf.write(0, 0);
        shelf.read();
        String file = Check.hexOf(shelf);
        shelf.clear();
        Check.same("rate", shelf.rate(), 11025);
        Check.same("the file and what was read stay", Check.state(shelf), "11025: | " + file + " | 0");
    }

    private static void howMany() {
        Check.sentence("How many samples there are.");
        SoundShelf shelf = new SoundShelf();
        Check.same("none", shelf.samples(), 0);
        for (int i = 1; i <= 64; i++) {
            shelf.add(i);
            Check.same("samples", shelf.samples(), i);
        }
    }

    private static void sampleI() {
        Check.sentence("Sample i.");
        SoundShelf shelf = ofMany(64);
        for (int i = 0; i < 64; i++) {
            Check.same("at(" + i + ")", shelf.at(i), i * 100 - 3000);
        }
    }

    private static void noSampleI() {
        Check.sentence("IndexOutOfBoundsException: there is none.");
        for (int many : new int[] {0, 1, 5, 63, 64}) {
            SoundShelf shelf = ofMany(many);
            if (many > 0) {
                Check.same("the first of " + many, shelf.at(0), -3000);
                Check.same("the last of " + many, shelf.at(many - 1), many * 100 - 3100);
            }
            for (int i : new int[] {-1, many, many + 1, 65, 400, Integer.MIN_VALUE, Integer.MAX_VALUE}) {
                Check.refused("at(" + i + ") of " + many, shelf, IndexOutOfBoundsException.class, () -> shelf.at(i));
            }
        }
    }

    private static void noSampleBehindRead() {
        SoundShelf shelf = ofMany(2);
        shelf.write(1, 0);
        shelf.add(1);
        shelf.read();
        Check.same("at(1)", shelf.at(1), -2900);
        Check.refused("at(2), of a file with two", shelf, IndexOutOfBoundsException.class, () -> shelf.at(2));
    }

    private static void tuneTells() {
        Check.sentence("Sets the rate: what it was.");
        SoundShelf shelf = Make.sound(8000, 9);
        Check.same("tune(5)", shelf.tune(5), 8000);
        Check.same("tune to the same", shelf.tune(5), 5);
        Check.same("tune(6)", shelf.tune(6), 5);
        Check.same("the samples stay", Check.soundOf(shelf), "6: 9");
    }

    private static void rateWithin() {
        Check.sentence("IllegalArgumentException: it is not 1 .. 192000.");
        SoundShelf shelf = Make.sound(8000, 9);
        Check.same("the least", shelf.tune(1), 8000);
        Check.same("the greatest", shelf.tune(192000), 1);
        for (int rate : new int[] {0, -1, 192001, 192002, -8000, Integer.MIN_VALUE, Integer.MAX_VALUE}) {
            Check.refused("tune(" + rate + ")", shelf, IllegalArgumentException.class, () -> shelf.tune(rate));
        }
        Check.same("behind the refused", shelf.tune(2), 192000);
    }

    private static void theRate() {
        Check.sentence("The rate.");
        SoundShelf shelf = new SoundShelf();
        for (int rate : new int[] {1, 2, 8000, 65536, 191999, 192000}) {
            shelf.tune(rate);
            Check.same("rate", shelf.rate(), rate);
        }
    }

    private static void twoObjects() {
        Check.sentence("No samples, no file.");
        SoundShelf one = Make.sound(100, 1);
        SoundShelf two = Make.sound(200, 2, 3);
        two.write(1, 0);
        two.read();
        Check.same("the one", Check.state(one), "100: 1 |  | none");
        Check.same("a third", Check.state(new SoundShelf()), "8000: |  | none");
    }
}
