/** Promises 1 to 7: a new object, add, clear, samples, at, tune, rate. */
public final class SoundTest {
    public static void main(String[] args) {
        newObject();
        addAndAt();
        full();
        clear();
        tune();
        twoObjects();
        Check.end();
    }

    private static void newObject() {
        SoundShelf shelf = new SoundShelf();
        Check.same("samples at first", shelf.samples(), 0);
        Check.same("rate at first", shelf.rate(), 8000);
        Check.same("size at first", shelf.size(), 0);
        Check.same("chunks at first", shelf.chunks(), 0);
        Check.same("read at first", shelf.read(), 0);
        Check.refused("form at first", shelf, IllegalStateException.class, shelf::form);
        Check.refused("at(0) at first", shelf, IndexOutOfBoundsException.class, () -> shelf.at(0));
        Check.refused("byteAt(0) at first", shelf, IndexOutOfBoundsException.class, () -> shelf.byteAt(0));
    }

    private static void addAndAt() {
        SoundShelf shelf = new SoundShelf();
        int[] samples = {5, -32768, 32767, 0, -1};
        for (int i = 0; i < samples.length; i++) {
            Check.same("add", shelf.add(samples[i]), i + 1);
            Check.same("samples", shelf.samples(), i + 1);
        }
        for (int i = 0; i < samples.length; i++) {
            Check.same("at(" + i + ")", shelf.at(i), samples[i]);
        }
        for (int sample : new int[] {-32769, 32768, Integer.MIN_VALUE, Integer.MAX_VALUE}) {
            Check.refused("add(" + sample + ")", shelf, IllegalArgumentException.class, () -> shelf.add(sample));
        }
        for (int i : new int[] {-1, 5, 63, 64, Integer.MIN_VALUE, Integer.MAX_VALUE}) {
            Check.refused("at(" + i + ")", shelf, IndexOutOfBoundsException.class, () -> shelf.at(i));
        }
    }

    private static void full() {
        SoundShelf shelf = new SoundShelf();
        for (int i = 0; i < 64; i++) {
            Check.same("add to " + i, shelf.add(i * 100), i + 1);
        }
        Check.refused("the 65th", shelf, IllegalStateException.class, () -> shelf.add(1));
        Check.refused("the 65th, and no sample", shelf, IllegalArgumentException.class, () -> shelf.add(40000));
        Check.same("at(63)", shelf.at(63), 6300);
        Check.refused("at(64)", shelf, IndexOutOfBoundsException.class, () -> shelf.at(64));
        Check.same("clear", shelf.clear(), 64);
        Check.same("add again", shelf.add(7), 1);
    }

    private static void clear() {
        SoundShelf shelf = Make.sound(11025, 1, 2, 3);
        shelf.write(0, 0);
        Check.same("clear", shelf.clear(), 3);
        Check.same("samples", shelf.samples(), 0);
        Check.same("the rate stays", shelf.rate(), 11025);
        Check.same("the file stays", shelf.size(), 48);
        Check.same("clear again", shelf.clear(), 0);
        Check.refused("at(0)", shelf, IndexOutOfBoundsException.class, () -> shelf.at(0));
    }

    private static void tune() {
        SoundShelf shelf = Make.sound(8000, 9);
        Check.same("tune(1)", shelf.tune(1), 8000);
        Check.same("rate", shelf.rate(), 1);
        Check.same("tune(192000)", shelf.tune(192000), 1);
        Check.same("rate", shelf.rate(), 192000);
        for (int rate : new int[] {0, -1, 192001, Integer.MIN_VALUE, Integer.MAX_VALUE}) {
            Check.refused("tune(" + rate + ")", shelf, IllegalArgumentException.class, () -> shelf.tune(rate));
        }
        Check.same("tune to the same", shelf.tune(192000), 192000);
        Check.same("samples stay", shelf.at(0), 9);
    }

    private static void twoObjects() {
        SoundShelf one = Make.sound(100, 1);
        SoundShelf two = Make.sound(200, 2, 3);
        two.write(1, 0);
        Check.same("the one", Check.state(one), "100: 1 |  | none");
        Check.same("the other's samples", two.samples(), 2);
    }
}
