/** Promises 11 to 15, sentence by sentence: size, byteAt, poke, type, cut. */
public final class BytesTest {
    public static void main(String[] args) {
        howManyBytes();
        byteK();
        noByteK();
        pokeByteK();
        pokeNoByteK();
        pokeWithin();
        pokeFirstOfTwo();
        typeLowest();
        typeHowMany();
        typeWithin();
        typeTooMany();
        typeFirstOfTwo();
        cutKeeps();
        cutWithin();
        soundStays();
        Check.end();
    }

    /** Byte k is k modulo 256, the last one 255. */
    private static SoundShelf ofMany(int many) {
        SoundShelf shelf = new SoundShelf();
        for (int k = 0; k < many; k++) {
            shelf.type(k == many - 1 ? 255 : k, 1);
        }
        return shelf;
    }

    private static void howManyBytes() {
        Check.sentence("How many bytes the file has.");
        for (int many : new int[] {0, 1, 255, 256, 399, 400}) {
            Check.same("size", ofMany(many).size(), many);
        }
        SoundShelf shelf = Make.sound(8000, 1, 2, 3);
        shelf.write(0, 0);
        Check.same("size when written", shelf.size(), 48);
    }

    private static void byteK() {
        Check.sentence("Byte k of the file.");
        SoundShelf shelf = Make.file("00 01 7f 80 ff");
        int[] due = {0, 1, 127, 128, 255};
        for (int k = 0; k < due.length; k++) {
            Check.same("byteAt(" + k + ")", shelf.byteAt(k), due[k]);
        }
    }

    private static void noByteK() {
        Check.sentence("Byte k of the file. IndexOutOfBoundsException: there is none.");
        for (int many : new int[] {0, 1, 3, 399, 400}) {
            SoundShelf shelf = ofMany(many);
            if (many > 0) {
                Check.same("the last of " + many, shelf.byteAt(many - 1), 255);
            }
            for (int k : new int[] {-1, many, many + 1, 401, Integer.MIN_VALUE, Integer.MAX_VALUE}) {
                Check.refused("byteAt(" + k + ") of " + many, shelf, IndexOutOfBoundsException.class,
                    () -> shelf.byteAt(k));
            }
        }
        SoundShelf shelf = ofMany(5);
        shelf.cut(2);
        Check.same("the last that was not cut", shelf.byteAt(1), 1);
        Check.refused("the first that was cut", shelf, IndexOutOfBoundsException.class, () -> shelf.byteAt(2));
    }

    private static void pokeByteK() {
        Check.sentence("Byte k of the file becomes b.");
        SoundShelf shelf = Make.file("01 02 03");
        shelf.poke(0, 9);
        Check.same("the first", Check.hexOf(shelf), "090203");
        shelf.poke(2, 8);
        Check.same("the last", Check.hexOf(shelf), "090208");
        Check.same("size", shelf.size(), 3);
    }

    private static void pokeNoByteK() {
        Check.sentence("IndexOutOfBoundsException: there is none; IllegalArgumentException: b is not 0 .. 255.");
        for (int many : new int[] {0, 1, 3, 399, 400}) {
            SoundShelf shelf = ofMany(many);
            for (int k : new int[] {-1, many, many + 1, 401, Integer.MIN_VALUE, Integer.MAX_VALUE}) {
                Check.refused("poke(" + k + ") of " + many, shelf, IndexOutOfBoundsException.class,
                    () -> shelf.poke(k, 1));
            }
            if (many > 0) {
                shelf.poke(many - 1, 77);
                Check.same("the last of " + many, shelf.byteAt(many - 1), 77);
            }
        }
        SoundShelf shelf = ofMany(5);
        shelf.cut(2);
        Check.refused("the first that was cut", shelf, IndexOutOfBoundsException.class, () -> shelf.poke(2, 1));
    }

    private static void pokeWithin() {
        Check.sentence("IllegalArgumentException: b is not 0 .. 255.");
        SoundShelf shelf = Make.file("01 02 03");
        shelf.poke(1, 0);
        Check.same("the least", shelf.byteAt(1), 0);
        shelf.poke(1, 255);
        Check.same("the greatest", shelf.byteAt(1), 255);
        for (int b : new int[] {-1, 256, -256, 511, Integer.MIN_VALUE, Integer.MAX_VALUE}) {
            Check.refused("poke b " + b, shelf, IllegalArgumentException.class, () -> shelf.poke(1, b));
        }
    }

    private static void pokeFirstOfTwo() {
        Check.sentence("the one named first when several would do");
        SoundShelf shelf = Make.file("01 02 03");
        for (int k : new int[] {-1, 3, Integer.MIN_VALUE, Integer.MAX_VALUE}) {
            Check.refused("poke(" + k + ", 256)", shelf, IndexOutOfBoundsException.class, () -> shelf.poke(k, 256));
            Check.refused("poke(" + k + ", -1)", shelf, IndexOutOfBoundsException.class, () -> shelf.poke(k, -1));
        }
    }

    private static void typeLowest() {
        Check.sentence("Puts the n lowest bytes behind the file, the highest of them first");
        String whole = "f1e2d3c4b5a69788";
        for (int n = 1; n <= 8; n++) {
            SoundShelf shelf = Make.file("aa");
            shelf.type(0xf1e2d3c4b5a69788L, n);
            Check.same("type " + n, Check.hexOf(shelf), "aa" + whole.substring(16 - 2 * n));
            shelf.type(-1, n);
            Check.same("type -1", Check.hexOf(shelf), "aa" + whole.substring(16 - 2 * n) + "ff".repeat(n));
        }
    }

    private static void typeHowMany() {
        Check.sentence("how many bytes it has");
        SoundShelf shelf = new SoundShelf();
        int due = 0;
        for (int n = 1; n <= 8; n++) {
            due += n;
            Check.same("type", shelf.type(n, n), due);
            Check.same("size", shelf.size(), due);
        }
    }

    private static void typeWithin() {
        Check.sentence("IllegalArgumentException: n is not 1 .. 8");
        SoundShelf shelf = Make.file("01 02");
        Check.same("the least", shelf.type(0, 1), 3);
        Check.same("the greatest", shelf.type(0, 8), 11);
        for (int n : new int[] {0, -1, 9, -8, 16, Integer.MIN_VALUE, Integer.MAX_VALUE}) {
            Check.refused("type n " + n, shelf, IllegalArgumentException.class, () -> shelf.type(1, n));
        }
        Check.same("behind the refused", shelf.type(7, 2), 13);
    }

    private static void typeTooMany() {
        Check.sentence("IllegalStateException: there would be more than 400.");
        for (int n = 1; n <= 8; n++) {
            int many = n;
            SoundShelf fits = ofMany(400 - n);
            Check.same("to 400 by " + n, fits.type(-2, n), 400);
            Check.same("the last byte", fits.byteAt(399), 254);
            Check.refused("one more", fits, IllegalStateException.class, () -> fits.type(1, 1));
            SoundShelf refuses = ofMany(401 - n);
            Check.refused("to 401 by " + n, refuses, IllegalStateException.class, () -> refuses.type(-2, many));
            Check.refused("to more than 401", refuses, IllegalStateException.class, () -> refuses.type(-2, 8));
        }
        SoundShelf shelf = ofMany(400);
        shelf.cut(399);
        Check.same("where one was cut", shelf.type(5, 1), 400);
    }

    private static void typeFirstOfTwo() {
        Check.sentence("the one named first when several would do");
        SoundShelf shelf = ofMany(400);
        for (int n : new int[] {0, -1, 9, Integer.MIN_VALUE, Integer.MAX_VALUE}) {
            Check.refused("type n " + n, shelf, IllegalArgumentException.class, () -> shelf.type(1, n));
        }
    }

    private static void cutKeeps() {
        Check.sentence("The file keeps its first n bytes.");
        SoundShelf shelf = Make.file("01 02 03 04");
        shelf.cut(4);
        Check.same("all", Check.hexOf(shelf), "01020304");
        shelf.cut(3);
        Check.same("all but one", Check.hexOf(shelf), "010203");
        shelf.cut(1);
        Check.same("one", Check.hexOf(shelf), "01");
        Check.same("behind the cut", shelf.type(0xaabb, 2), 3);
        Check.same("bytes", Check.hexOf(shelf), "01aabb");
        shelf.cut(0);
        Check.same("none", shelf.size(), 0);
        shelf.cut(0);
        Check.same("none of none", shelf.size(), 0);
    }

    private static void cutWithin() {
        Check.sentence("IllegalArgumentException: n is below 0, or it has not so many.");
        for (int many : new int[] {0, 1, 4, 399, 400}) {
            SoundShelf shelf = ofMany(many);
            for (int n : new int[] {-1, many + 1, 401, Integer.MIN_VALUE, Integer.MAX_VALUE}) {
                Check.refused("cut(" + n + ") of " + many, shelf, IllegalArgumentException.class, () -> shelf.cut(n));
            }
            shelf.cut(many);
            Check.same("cut(" + many + ")", shelf.size(), many);
            shelf.cut(0);
            Check.same("cut(0)", shelf.size(), 0);
        }
        SoundShelf shelf = ofMany(4);
        shelf.cut(2);
        Check.refused("what was cut", shelf, IllegalArgumentException.class, () -> shelf.cut(3));
    }

    private static void soundStays() {
        Check.sentence("Nothing is promised beyond the answers and state changes described above");
        SoundShelf shelf = Make.sound(5, 6, 7);
        shelf.write(1, 0);
        shelf.read();
        shelf.poke(44, 99);
        shelf.type(3, 2);
        shelf.cut(9);
        Check.same("the sound", Check.soundOf(shelf), "5: 6 7");
        Check.same("the form", shelf.form(), 1);
    }
}
