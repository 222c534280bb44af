import java.util.NoSuchElementException;

/** Promises 16 and 17, sentence by sentence: chunks and chunk. */
public final class ChunkTest {
    public static void main(String[] args) {
        written();
        fromByte12();
        whateverIds();
        littleIfFirstIs82();
        wholeOrNot();
        oddSizes();
        beforeOneThatIsNot();
        greatSizes();
        many();
        placeIdSize();
        whatIsNone();
        noSuchChunk();
        firstOfTwo();
        Check.end();
    }

    private static void due(String label, SoundShelf shelf, int k, int place, int id, int size) {
        Check.same(label + " place of " + k, shelf.chunk(k, 0), place);
        Check.same(label + " id of " + k, shelf.chunk(k, 1), id);
        Check.same(label + " size of " + k, shelf.chunk(k, 2), size);
    }

    private static void none(String label, SoundShelf shelf, int k) {
        for (int what = 0; what < 3; what++) {
            int asked = what;
            Check.refused(label + " chunk(" + k + ")", shelf, NoSuchElementException.class, () -> shelf.chunk(k, asked));
        }
    }

    private static void written() {
        Check.sentence("A file that is written has the chunks named for it in the order fmt, fact (tags 17 and 2 alone),"
            + " data, or COMM, SSND.");
        SoundShelf shelf = Make.sound(8000, 1, 2, 3);
        shelf.write(0, 0);
        Check.same("chunks, bytes", shelf.chunks(), 2);
        due("bytes", shelf, 0, 12, 0x666d7420, 16);
        due("bytes", shelf, 1, 36, 0x64617461, 3);
        shelf.write(1, 0);
        Check.same("chunks, words", shelf.chunks(), 2);
        due("words", shelf, 0, 12, 0x666d7420, 16);
        due("words", shelf, 1, 36, 0x64617461, 6);
        shelf.write(2, 1);
        Check.same("chunks, stepped", shelf.chunks(), 3);
        due("stepped", shelf, 0, 12, 0x666d7420, 20);
        due("stepped", shelf, 1, 40, 0x66616374, 4);
        due("stepped", shelf, 2, 52, 0x64617461, 5);
        shelf.write(3, 2);
        Check.same("chunks, predicted", shelf.chunks(), 3);
        due("predicted", shelf, 0, 12, 0x666d7420, 50);
        due("predicted", shelf, 1, 70, 0x66616374, 4);
        due("predicted", shelf, 2, 82, 0x64617461, 9);
        shelf.write(4, 3);
        Check.same("chunks, other", shelf.chunks(), 2);
        due("other", shelf, 0, 12, 0x434f4d4d, 18);
        due("other", shelf, 1, 38, 0x53534e44, 11);
    }

    private static void fromByte12() {
        Check.sentence("Walks the file's chunks from byte 12 on");
        SoundShelf shelf = new SoundShelf();
        for (int n = 0; n < 20; n++) {
            Check.same("chunks of " + n + " bytes", shelf.chunks(), 0);
            none("of " + n + " bytes", shelf, 0);
            shelf.type(0, 1);
        }
        Check.same("chunks of 20 bytes", shelf.chunks(), 1);
        due("of 20 bytes", shelf, 0, 12, 0, 0);
        SoundShelf head = Make.file("ff".repeat(12) + "'abcd' 00000000");
        Check.same("what stands before is any", head.chunks(), 1);
        due("what stands before is any", head, 0, 12, 0x61626364, 0);
    }

    private static void whateverIds() {
        Check.sentence("whatever their ids");
        SoundShelf shelf = Make.file("00".repeat(12) + "ffffffff 00000000 80000000 00000002 0102 'data' 00000000"
            + "'SSND' 00000000 'SSND' 00000000 00000000 00000000");
        Check.same("chunks", shelf.chunks(), 6);
        due("ids", shelf, 0, 12, 0xffffffff, 0);
        due("ids", shelf, 1, 20, 0x80000000, 2);
        due("ids", shelf, 2, 30, 0x64617461, 0);
        due("ids", shelf, 3, 38, 0x53534e44, 0);
        due("ids", shelf, 4, 46, 0x53534e44, 0);
        due("ids", shelf, 5, 54, 0, 0);
    }

    private static void littleIfFirstIs82() {
        Check.sentence("sizes little if the first byte is 82, else big");
        SoundShelf little = Make.file("52" + "00".repeat(11) + "'abcd' 02000000 0000");
        SoundShelf big = Make.file("52" + "00".repeat(11) + "'abcd' 00000002 0000");
        for (int first = 0; first < 256; first++) {
            little.poke(0, first);
            big.poke(0, first);
            Check.same("little, first byte " + first, little.chunks(), first == 82 ? 1 : 0);
            Check.same("big, first byte " + first, big.chunks(), first == 82 ? 0 : 1);
        }
        due("big", big, 0, 12, 0x61626364, 2);
        little.poke(0, 82);
        due("little", little, 0, 12, 0x61626364, 2);
        SoundShelf both = Make.file("52" + "00".repeat(11) + "'abcd' 00010000" + "00".repeat(256));
        Check.same("256 little", both.chunk(0, 2), 256);
        both.poke(0, 70);
        Check.same("65536 big", both.chunks(), 0);
    }

    private static void wholeOrNot() {
        Check.sentence("how many are whole");
        for (int size : new int[] {0, 1, 2, 3, 100, 255, 256, 379, 380}) {
            int bytes = size + size % 2;
            SoundShelf shelf = Make.file(Make.wave("'abcd'" + Make.little(size, 4) + "77".repeat(bytes)));
            Check.same("whole with " + size, shelf.chunks(), 1);
            due("whole", shelf, 0, 12, 0x61626364, size);
            shelf.cut(shelf.size() - 1);
            Check.same("a byte less than " + size, shelf.chunks(), 0);
            none("a byte less than " + size, shelf, 0);
        }
    }

    private static void oddSizes() {
        Check.sentence("each with its byte 0 or another one if its size is odd");
        for (int behind : new int[] {0, 1, 255}) {
            SoundShelf shelf = Make.file(Make.wave("'odd ' 01000000 aa" + Make.little(behind, 1)
                + "'even' 02000000 0000 'last' 03000000 010203"));
            Check.same("no byte behind the last", shelf.chunks(), 2);
            due("odd", shelf, 0, 12, 0x6f646420, 1);
            due("even", shelf, 1, 22, 0x6576656e, 2);
            none("the last", shelf, 2);
            Check.same("a byte behind the last", shelf.type(behind, 1), 44);
            Check.same("with the byte behind the last", shelf.chunks(), 3);
            due("the last", shelf, 2, 32, 0x6c617374, 3);
        }
    }

    private static void beforeOneThatIsNot() {
        Check.sentence("before one that is not");
        SoundShelf shelf = Make.file(Make.other("'abcd' 00000000 'long' 00000009 'efgh' 00000000"));
        Check.same("the second is not whole", shelf.chunks(), 1);
        due("the first", shelf, 0, 12, 0x61626364, 0);
        none("the second", shelf, 1);
        none("behind it", shelf, 2);
        shelf.poke(27, 8);
        Check.same("the second is whole", shelf.chunks(), 2);
        due("the second", shelf, 1, 20, 0x6c6f6e67, 8);
        none("in it", shelf, 2);
        for (int n = 35; n > 20; n--) {
            shelf.cut(n);
            Check.same("cut to " + n, shelf.chunks(), 1);
        }
    }

    private static void greatSizes() {
        Check.sentence("how many are whole, each with its byte 0 or another one if its size is odd, before one that is"
            + " not");
        for (String size : new String[] {
            "ffffffff", "fffffffe", "80000000", "7fffffff", "7ffffffe", "ffffffec", "ffffffe4", "ffffffe3", "0000000b",
            "0100000a", "0001000a", "0000010a",
        }) {
            SoundShelf shelf = Make.file(Make.other("'abcd' 00000000 'efgh'" + size + "00".repeat(10)));
            Check.same("size " + size, shelf.chunks(), 1);
            none("size " + size, shelf, 1);
        }
        SoundShelf shelf = Make.file(Make.other("'abcd' 00000000 'efgh' 0000000a" + "00".repeat(10)));
        Check.same("the last size that is whole", shelf.chunks(), 2);
    }

    private static void many() {
        Check.sentence("THE FILE has at most 400 bytes");
        SoundShelf shelf = Make.file(Make.wave("'abcd' 00000000".repeat(48)));
        Check.same("48 chunks", shelf.chunks(), 48);
        due("the last", shelf, 47, 12 + 47 * 8, 0x61626364, 0);
        none("behind the last", shelf, 48);
        shelf.type(0, 4);
        Check.same("48 chunks, and half a head", shelf.chunks(), 48);
        none("half a head", shelf, 48);
    }

    private static void placeIdSize() {
        Check.sentence("Of chunk k on that walk: its place (0), its id as a big number (1), its size (2).");
        SoundShelf wave = Make.file(Make.wave("01020304 05000000 000000000000 f1f2f3f4 00000000"));
        due("wave", wave, 0, 12, 0x01020304, 5);
        due("wave", wave, 1, 26, 0xf1f2f3f4, 0);
        SoundShelf other = Make.file(Make.other("01020304 00000005 000000000000 f1f2f3f4 00000000"));
        due("other", other, 0, 12, 0x01020304, 5);
        due("other", other, 1, 26, 0xf1f2f3f4, 0);
    }

    private static SoundShelf ofTwoChunks() {
        SoundShelf shelf = Make.sound(8000, 1);
        shelf.write(1, 0);
        return shelf;
    }

    private static void whatIsNone() {
        Check.sentence("IllegalArgumentException: what is none of these");
        SoundShelf shelf = ofTwoChunks();
        Check.same("the least", shelf.chunk(0, 0), 12);
        Check.same("the greatest", shelf.chunk(0, 2), 16);
        for (int what : new int[] {-1, 3, 4, Integer.MIN_VALUE, Integer.MAX_VALUE}) {
            Check.refused("what " + what, shelf, IllegalArgumentException.class, () -> shelf.chunk(0, what));
            Check.refused("what " + what, shelf, IllegalArgumentException.class, () -> shelf.chunk(1, what));
        }
    }

    private static void noSuchChunk() {
        Check.sentence("java.util.NoSuchElementException: there is no such chunk.");
        SoundShelf shelf = ofTwoChunks();
        Check.same("the first", shelf.chunk(0, 0), 12);
        Check.same("the last", shelf.chunk(1, 0), 36);
        for (int k : new int[] {-1, -2, 2, 3, 47, 48, 49, 50, 51, 400, Integer.MIN_VALUE, Integer.MAX_VALUE}) {
            none("of two", shelf, k);
        }
        SoundShelf empty = new SoundShelf();
        for (int k : new int[] {-1, 0, 1, 50, Integer.MIN_VALUE, Integer.MAX_VALUE}) {
            none("of none", empty, k);
        }
    }

    private static void firstOfTwo() {
        Check.sentence("the one named first when several would do");
        SoundShelf shelf = ofTwoChunks();
        for (int what : new int[] {-1, 3, Integer.MIN_VALUE, Integer.MAX_VALUE}) {
            for (int k : new int[] {-1, 2, Integer.MIN_VALUE, Integer.MAX_VALUE}) {
                Check.refused("chunk(" + k + ", " + what + ")", shelf, IllegalArgumentException.class,
                    () -> shelf.chunk(k, what));
            }
        }
    }
}
