import java.util.Arrays;
import java.util.List;
import java.util.Random;

/** Runs of 512 calls on one object, with arguments on both sides of every bound, against what the model tells. */
public final class CallsTest {
    private static final int OBJECTS = 400;
    private static final int CALLS = 512;
    private static final int METHODS = 16;
    private static final int CUT = 13;
    private static final int[] ARGUMENTS = {
        Integer.MIN_VALUE, -32769, -32768, -256, -2, -1, 0, 1, 2, 3, 4, 5, 7, 8, 9, 15, 16, 17, 43, 44, 63, 64, 65, 82,
        255, 256, 399, 400, 401, 8000, 32767, 32768, 191999, 192000, 192001, Integer.MAX_VALUE,
    };
    private static final String ARGUMENT = "IllegalArgumentException";
    private static final String STATE = "IllegalStateException";
    private static final String INDEX = "IndexOutOfBoundsException";
    private static final String ELEMENT = "NoSuchElementException";

    private final Random random = new Random(512);
    private SoundShelf shelf = new SoundShelf();
    private Model model = new Model();

    public static void main(String[] args) {
        Check.sentence("An object is used for at most 512 calls after it has been made");
        CallsTest test = new CallsTest();
        for (int i = 0; i < OBJECTS; i++) {
            test.run("object " + i);
        }
        Check.end();
    }

    private void run(String label) {
        shelf = new SoundShelf();
        model = new Model();
        // One method comes more often in each run, so that sounds and files get full in some.
        int favourite = random.nextInt(METHODS);
        for (int call = 1; call <= CALLS; call++) {
            int method = random.nextInt(3) == 0 ? favourite : random.nextInt(METHODS);
            int one = method == CUT ? bytesToKeep() : argument();
            int two = argument();
            long bytes = random.nextBoolean() ? one : random.nextLong();
            String due = due(method, one, two, bytes);
            Check.same(label + ", call " + call + ", method " + method + "(" + one + ", " + two + ")",
                answer(method, one, two, bytes), due);
        }
        Check.same(label + " at the end", Check.state(shelf), stateOfModel());
    }

    /** Small ones more often, so that calls are taken as often as they are refused. */
    private int argument() {
        int kind = random.nextInt(3);
        if (kind == 0) {
            return random.nextInt(9);
        }
        return kind == 1 ? ARGUMENTS[random.nextInt(ARGUMENTS.length)] : random.nextInt(60) - 5;
    }

    /** Files grow long only if most cuts are small ones. */
    private int bytesToKeep() {
        return random.nextInt(4) == 0 ? argument() : model.file.length + 2 - random.nextInt(5);
    }

    private String answer(int method, int one, int two, long bytes) {
        try {
            return String.valueOf(answerOf(method, one, two, bytes));
        } catch (RuntimeException e) {
            return e.getClass().getSimpleName();
        }
    }

    private int answerOf(int method, int one, int two, long bytes) {
        switch (method) {
            case 0: return shelf.add(one);
            case 1: return one == 64 ? shelf.clear() : shelf.samples();
            case 2: return shelf.samples();
            case 3: return shelf.at(one);
            case 4: return shelf.tune(one);
            case 5: return shelf.rate();
            case 6: return shelf.write(one, two);
            case 7: return shelf.read();
            case 8: return shelf.form();
            case 9: return shelf.size();
            case 10: return shelf.byteAt(one);
            case 11: shelf.poke(one, two); return 0;
            case 12: return shelf.type(bytes, two);
            case CUT: shelf.cut(one); return 0;
            case 14: return shelf.chunks();
            default: return shelf.chunk(one, two);
        }
    }

    private String due(int method, int one, int two, long bytes) {
        int have = model.samples.size();
        int length = model.file.length;
        switch (method) {
            case 0: return one < -32768 || one > 32767 ? ARGUMENT : have == 64 ? STATE : added(one);
            case 1: return one == 64 ? cleared() : String.valueOf(have);
            case 2: return String.valueOf(have);
            case 3: return one < 0 || one >= have ? INDEX : String.valueOf(model.samples.get(one));
            case 4: return one < 1 || one > 192000 ? ARGUMENT : tuned(one);
            case 5: return String.valueOf(model.rate);
            case 6: return isWritable(one, two) ? written(one, two) : ARGUMENT;
            case 7: return String.valueOf(model.read());
            case 8: return model.form < 0 ? STATE : String.valueOf(model.form);
            case 9: return String.valueOf(length);
            case 10: return one < 0 || one >= length ? INDEX : String.valueOf(model.file[one] & 255);
            case 11: return one < 0 || one >= length ? INDEX : two < 0 || two > 255 ? ARGUMENT : poked(one, two);
            case 12: return two < 1 || two > 8 ? ARGUMENT : length + two > 400 ? STATE : typed(bytes, two);
            case CUT: return one < 0 || one > length ? ARGUMENT : resized(one);
            case 14: return String.valueOf(model.walk().size());
            default: return two < 0 || two > 2 ? ARGUMENT : chunkDue(one, two);
        }
    }

    private String added(int sample) {
        model.samples.add(sample);
        return String.valueOf(model.samples.size());
    }

    private String cleared() {
        int had = model.samples.size();
        model.samples.clear();
        return String.valueOf(had);
    }

    private String tuned(int rate) {
        int was = model.rate;
        model.rate = rate;
        return String.valueOf(was);
    }

    private static boolean isWritable(int form, int size) {
        int most = form == 4 ? 16 : 8;
        return form == 0 || form == 1 || form >= 2 && form <= 4 && size >= 1 && size <= most;
    }

    private String written(int form, int size) {
        model.write(form, size);
        return String.valueOf(model.file.length);
    }

    private String poked(int k, int b) {
        model.file[k] = (byte) b;
        return "0";
    }

    private String typed(long bytes, int n) {
        int length = model.file.length;
        model.file = Arrays.copyOf(model.file, length + n);
        for (int i = 0; i < n; i++) {
            model.file[length + i] = (byte) (bytes >>> 8 * (n - 1 - i));
        }
        return String.valueOf(length + n);
    }

    private String resized(int n) {
        model.file = Arrays.copyOf(model.file, n);
        return "0";
    }

    private String chunkDue(int k, int what) {
        List<int[]> chunks = model.walk();
        return k < 0 || k >= chunks.size() ? ELEMENT : String.valueOf(chunks.get(k)[what]);
    }

    private String stateOfModel() {
        StringBuilder text = new StringBuilder().append(model.rate).append(':');
        for (int sample : model.samples) {
            text.append(' ').append(sample);
        }
        text.append(" | ");
        for (byte b : model.file) {
            text.append(String.format("%02x", b));
        }
        return text.append(" | ").append(model.form < 0 ? "none" : String.valueOf(model.form)).toString();
    }
}
