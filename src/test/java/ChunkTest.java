import java.util.NoSuchElementException;

/** Promises 16 and 17: chunks and chunk. */
public final class ChunkTest {
    public static void main(String[] args) {
        written();
        anyIds();
        oddSizes();
        shortFiles();
        greatSizes();
        many();
        wrongArguments();
        Check.end();
    }

    private static void due(String label, SoundShelf shelf, int k, int place, int id, int size) {
        Check.same(label + " place of " + k, shelf.chunk(k, 0), place);
        Check.same(label + " id of " + k, shelf.chunk(k, 1), id);
        Check.same(label + " size of " + k, shelf.chunk(k, 2), size);
    }

    private static void written() {
        SoundShelf shelf = Make.sound(8000, 1, 2, 3);
        shelf.write(0, 0);
        Check.same("chunks, bytes", shelf.chunks(), 2);
        due("bytes", shelf, 0, 12, 0x666d7420, 16);
        due("bytes", shelf, 1, 36, 0x64617461, 3);
        shelf.write(3, 2);
        Check.same("chunks, predicted", shelf.chunks(), 3);
        due("predicted", shelf, 0, 12, 0x666d7420, 50);
        due("predicted", shelf, 1, 70, 0x66616374, 4);
        due("predicted", shelf, 2, 82, 0x64617461, 9);
        shelf.write(4, 3);
        Check.same("chunks, other", shelf.chunks(), 2);
        due("other", shelf, 0, 12, 0x434f4d4d, 18);
        due("other", shelf, 1, 38, 0x53534e44, 11);
    }

    private static void anyIds() {
        SoundShelf big = Make.file("00".repeat(12) + "ff80fe01 00000002 0102" + "00000000 00000000");
        Check.same("chunks, big", big.chunks(), 2);
        due("big", big, 0, 12, 0xff80fe01, 2);
        due("big", big, 1, 22, 0, 0);
        SoundShelf little = Make.file("'R'" + "00".repeat(11) + "7fffffff 02000000 0102" + "'data' 00000000");
        Check.same("chunks, little", little.chunks(), 2);
        due("little", little, 0, 12, 0x7fffffff, 2);
        due("little", little, 1, 22, 0x64617461, 0);
        big.poke(0, 82);
        Check.same("the big one walked little", big.chunks(), 0);
        little.poke(0, 83);
        Check.same("the little one walked big", little.chunks(), 0);
    }

    private static void oddSizes() {
        SoundShelf shelf = Make.file(Make.wave("'odd ' 01000000 aa 77" + "'even' 02000000 0000" + "'last' 03000000 010203"));
        Check.same("no byte behind the last", shelf.chunks(), 2);
        due("odd", shelf, 0, 12, 0x6f646420, 1);
        due("odd", shelf, 1, 22, 0x6576656e, 2);
        Check.refused("the last", shelf, NoSuchElementException.class, () -> shelf.chunk(2, 0));
        shelf.type(9, 1);
        Check.same("with the byte behind the last", shelf.chunks(), 3);
        due("odd", shelf, 2, 32, 0x6c617374, 3);
    }

    private static void shortFiles() {
        SoundShelf shelf = Make.file(Make.other("'abcd' 00000000"));
        Check.same("one whole chunk", shelf.chunks(), 1);
        for (int n = 19; n >= 0; n--) {
            shelf.cut(n);
            Check.same("cut to " + n, shelf.chunks(), 0);
            Check.refused("chunk(0) cut to " + n, shelf, NoSuchElementException.class, () -> shelf.chunk(0, 2));
        }
    }

    private static void greatSizes() {
        for (String size : new String[] {"ffffffff", "fffffffe", "80000000", "7fffffff", "ffffffec", "0000000b"}) {
            SoundShelf shelf = Make.file(Make.other("'abcd' 00000000 'efgh'" + size + "00".repeat(10)));
            Check.same("size " + size, shelf.chunks(), 1);
            Check.refused("size " + size, shelf, NoSuchElementException.class, () -> shelf.chunk(1, 0));
        }
    }

    private static void many() {
        SoundShelf shelf = Make.file(Make.wave("'abcd' 00000000".repeat(48)));
        Check.same("48 chunks", shelf.chunks(), 48);
        Check.same("place of the last", shelf.chunk(47, 0), 12 + 47 * 8);
        Check.refused("chunk(48)", shelf, NoSuchElementException.class, () -> shelf.chunk(48, 0));
        shelf.type(0, 4);
        Check.same("48 chunks, and half a head", shelf.chunks(), 48);
    }

    private static void wrongArguments() {
        SoundShelf shelf = Make.sound(8000, 1);
        shelf.write(1, 0);
        for (int what : new int[] {-1, 3, Integer.MIN_VALUE, Integer.MAX_VALUE}) {
            Check.refused("what " + what, shelf, IllegalArgumentException.class, () -> shelf.chunk(0, what));
            Check.refused("k too", shelf, IllegalArgumentException.class, () -> shelf.chunk(9, what));
        }
        for (int k : new int[] {-1, 2, 50, Integer.MIN_VALUE, Integer.MAX_VALUE}) {
            for (int what = 0; what < 3; what++) {
                int asked = what;
                Check.refused("k " + k, shelf, NoSuchElementException.class, () -> shelf.chunk(k, asked));
            }
        }
    }
}
