/** Promises 11 to 15: size, byteAt, poke, type, cut. */
public final class BytesTest {
    public static void main(String[] args) {
        type();
        typeToTheEnd();
        byteAt();
        poke();
        cut();
        Check.end();
    }

    private static void type() {
        SoundShelf shelf = new SoundShelf();
        Check.same("type 1", shelf.type(0x1ff, 1), 1);
        Check.same("type 3", shelf.type(0x99010203L, 3), 4);
        Check.same("type 8", shelf.type(0x8001020304050607L, 8), 12);
        Check.same("type -1", shelf.type(-1L, 2), 14);
        Check.same("type 5", shelf.type(0x7700000000abL, 5), 19);
        Check.same("size", shelf.size(), 19);
        Check.same("bytes", Check.hexOf(shelf), "ff" + "010203" + "8001020304050607" + "ffff" + "00000000ab");
        for (int n : new int[] {0, -1, 9, Integer.MIN_VALUE, Integer.MAX_VALUE}) {
            Check.refused("type n " + n, shelf, IllegalArgumentException.class, () -> shelf.type(1, n));
        }
    }

    private static void typeToTheEnd() {
        SoundShelf shelf = new SoundShelf();
        for (int i = 0; i < 49; i++) {
            shelf.type(i, 8);
        }
        Check.same("type to 399", shelf.type(1, 7), 399);
        Check.refused("401 bytes", shelf, IllegalStateException.class, () -> shelf.type(1, 2));
        Check.refused("407 bytes", shelf, IllegalStateException.class, () -> shelf.type(1, 8));
        Check.same("400 bytes", shelf.type(0xee, 1), 400);
        Check.same("byteAt(399)", shelf.byteAt(399), 0xee);
        Check.refused("one more", shelf, IllegalStateException.class, () -> shelf.type(1, 1));
        Check.refused("none more", shelf, IllegalArgumentException.class, () -> shelf.type(1, 0));
        Check.refused("nine more", shelf, IllegalArgumentException.class, () -> shelf.type(1, 9));
        Check.refused("byteAt(400)", shelf, IndexOutOfBoundsException.class, () -> shelf.byteAt(400));
        Check.refused("poke(400)", shelf, IndexOutOfBoundsException.class, () -> shelf.poke(400, 0));
    }

    private static void byteAt() {
        SoundShelf shelf = Make.file("00 80 ff");
        Check.same("byteAt(0)", shelf.byteAt(0), 0);
        Check.same("byteAt(1)", shelf.byteAt(1), 128);
        Check.same("byteAt(2)", shelf.byteAt(2), 255);
        for (int k : new int[] {-1, 3, 399, 400, Integer.MIN_VALUE, Integer.MAX_VALUE}) {
            Check.refused("byteAt(" + k + ")", shelf, IndexOutOfBoundsException.class, () -> shelf.byteAt(k));
        }
    }

    private static void poke() {
        SoundShelf shelf = Make.file("01 02 03");
        shelf.poke(0, 255);
        shelf.poke(2, 0);
        Check.same("poked", Check.hexOf(shelf), "ff0200");
        for (int k : new int[] {-1, 3, 400, Integer.MIN_VALUE, Integer.MAX_VALUE}) {
            Check.refused("poke(" + k + ")", shelf, IndexOutOfBoundsException.class, () -> shelf.poke(k, 1));
            Check.refused("poke(" + k + ", 256)", shelf, IndexOutOfBoundsException.class, () -> shelf.poke(k, 256));
        }
        for (int b : new int[] {-1, 256, Integer.MIN_VALUE, Integer.MAX_VALUE}) {
            Check.refused("poke b " + b, shelf, IllegalArgumentException.class, () -> shelf.poke(1, b));
        }
    }

    private static void cut() {
        SoundShelf shelf = Make.file("01 02 03 04");
        shelf.cut(4);
        Check.same("cut to the same", Check.hexOf(shelf), "01020304");
        for (int n : new int[] {-1, 5, 400, 401, Integer.MIN_VALUE, Integer.MAX_VALUE}) {
            Check.refused("cut(" + n + ")", shelf, IllegalArgumentException.class, () -> shelf.cut(n));
        }
        shelf.cut(2);
        Check.same("cut to 2", Check.hexOf(shelf), "0102");
        Check.refused("byteAt(2)", shelf, IndexOutOfBoundsException.class, () -> shelf.byteAt(2));
        Check.refused("poke(2)", shelf, IndexOutOfBoundsException.class, () -> shelf.poke(2, 1));
        Check.refused("cut(3)", shelf, IllegalArgumentException.class, () -> shelf.cut(3));
        Check.same("type behind the cut", shelf.type(0xaabb, 2), 4);
        Check.same("bytes", Check.hexOf(shelf), "0102aabb");
        shelf.cut(0);
        Check.same("cut to none", shelf.size(), 0);
    }
}
