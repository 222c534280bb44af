import java.util.List;
import java.util.Random;

/** Promises 8, 9, 10, 16 and 17 on many sounds and damaged files: the program answers what the model does. */
public final class ModelTest {
    private static final int ROUNDS = 6000;
    private static final String[] IDS = {"fmt ", "fact", "data", "COMM", "SSND", "LIST", "RIFF"};

    private final Random random = new Random(20261115);
    private final Model model = new Model();
    private SoundShelf shelf = new SoundShelf();

    public static void main(String[] args) {
        ModelTest test = new ModelTest();
        for (int round = 0; round < ROUNDS; round++) {
            test.round("round " + round);
        }
        test.everyByteEveryValue();
        Check.end();
    }

    private void round(String label) {
        newSound();
        int form = random.nextInt(5);
        int size = 1 + random.nextInt(form == 4 ? 16 : 8);
        shelf.write(form, size);
        model.write(form, size);
        sameFile(label);
        sameRead(label + " as written");
        for (int i = 0; i < 6; i++) {
            newFile(damaged(model.file));
            sameRead(label + " damaged " + i);
            sameWalk(label + " damaged " + i);
        }
    }

    private void newSound() {
        shelf = new SoundShelf();
        model.samples.clear();
        model.form = -1;
        model.rate = random.nextInt(4) == 0 ? 1 << random.nextInt(18) : 1 + random.nextInt(192000);
        shelf.tune(model.rate);
        int many = random.nextInt(65);
        int reach = 1 << random.nextInt(17);
        int sample = random.nextInt(65536) - 32768;
        for (int i = 0; i < many; i++) {
            sample = Math.max(-32768, Math.min(32767, sample + random.nextInt(2 * reach + 1) - reach));
            shelf.add(sample);
            model.samples.add(sample);
        }
    }

    private void newFile(byte[] bytes) {
        model.file = bytes;
        shelf.cut(0);
        for (byte b : bytes) {
            shelf.type(b, 1);
        }
    }

    private byte[] damaged(byte[] bytes) {
        byte[] other = bytes.clone();
        switch (random.nextInt(6)) {
            case 0 -> other = java.util.Arrays.copyOf(other, random.nextInt(other.length + 1));
            case 1 -> other = spliced(other, new byte[random.nextInt(5)], random.nextInt(other.length + 1));
            case 2 -> other = spliced(other, newChunk(other), placeOfSomeChunk());
            case 3 -> {
                int from = placeOfSomeChunk();
                int more = Math.min(other.length - from, 8 + random.nextInt(30));
                other = spliced(other, java.util.Arrays.copyOfRange(other, from, from + more), placeOfSomeChunk());
            }
            default -> {
                for (int i = random.nextInt(3); i >= 0 && other.length > 0; i--) {
                    other[random.nextInt(other.length)] = newByte();
                }
            }
        }
        if (random.nextInt(8) > 0) {
            mendLength(other);
        }
        return other;
    }

    private byte newByte() {
        int[] telling = {0, 1, 2, 7, 16, 17, 20, 50, 64, 65, 88, 89, 128, 255};
        return (byte) (random.nextBoolean() ? random.nextInt(256) : telling[random.nextInt(telling.length)]);
    }

    private byte[] newChunk(byte[] file) {
        boolean little = file.length > 0 && file[0] == 'R';
        int size = random.nextInt(6);
        byte[] chunk = new byte[8 + size + size % 2];
        System.arraycopy(IDS[random.nextInt(IDS.length)].getBytes(), 0, chunk, 0, 4);
        chunk[little ? 4 : 7] = (byte) size;
        for (int i = 0; i < size; i++) {
            chunk[8 + i] = newByte();
        }
        return chunk;
    }

    private int placeOfSomeChunk() {
        List<int[]> chunks = model.walk();
        int k = random.nextInt(chunks.size() + 1);
        return k < chunks.size() ? chunks.get(k)[0] : model.file.length;
    }

    private static byte[] spliced(byte[] bytes, byte[] more, int at) {
        if (bytes.length + more.length > 400) {
            return bytes;
        }
        byte[] all = new byte[bytes.length + more.length];
        System.arraycopy(bytes, 0, all, 0, at);
        System.arraycopy(more, 0, all, at, more.length);
        System.arraycopy(bytes, at, all, at + more.length, bytes.length - at);
        return all;
    }

    private static void mendLength(byte[] bytes) {
        for (int i = 0; i < 4 && bytes.length >= 8; i++) {
            int shift = bytes[0] == 'R' ? 8 * i : 24 - 8 * i;
            bytes[4 + i] = (byte) (bytes.length - 8 >> shift);
        }
    }

    private void everyByteEveryValue() {
        for (int form = 0; form < 5; form++) {
            newSound();
            while (shelf.samples() > 9 || shelf.samples() < 3) {
                newSound();
            }
            shelf.write(form, 3);
            model.write(form, 3);
            byte[] whole = model.file.clone();
            for (int k = 0; k < whole.length; k++) {
                for (int b = 0; b < 256; b++) {
                    shelf.poke(k, b);
                    model.file[k] = (byte) b;
                    sameRead("form " + form + ", byte " + k + " is " + b);
                }
                shelf.poke(k, whole[k] & 255);
                model.file[k] = whole[k];
            }
        }
    }

    private void sameFile(String label) {
        StringBuilder due = new StringBuilder();
        for (byte b : model.file) {
            due.append(String.format("%02x", b));
        }
        Check.same(label + " file", Check.hexOf(shelf), due.toString());
    }

    private void sameRead(String label) {
        Check.same(label + " read", shelf.read(), model.read());
        StringBuilder due = new StringBuilder().append(model.rate).append(':');
        for (int sample : model.samples) {
            due.append(' ').append(sample);
        }
        Check.same(label + " sound", Check.soundOf(shelf), due.toString());
        if (model.form >= 0) {
            Check.same(label + " form", shelf.form(), model.form);
        }
    }

    private void sameWalk(String label) {
        List<int[]> chunks = model.walk();
        Check.same(label + " chunks", shelf.chunks(), chunks.size());
        for (int k = 0; k < chunks.size(); k++) {
            for (int what = 0; what < 3; what++) {
                Check.same(label + " chunk " + k, shelf.chunk(k, what), chunks.get(k)[what]);
            }
        }
    }
}
