import java.util.NoSuchElementException;

/** A sound of a few samples, and a file of it in one of five forms that is written, walked and read. */
public final class SoundShelf {
    public static final int NONE = -1;

    private static final int MOST_SAMPLES = 64;
    private static final int LEAST_SAMPLE = -32768;
    private static final int GREATEST_SAMPLE = 32767;
    private static final int MOST_RATE = 192000;
    private static final int FIRST_RATE = 8000;
    private static final int MOST_BYTES = 400;

    private static final int FORM_BYTES = 0;
    private static final int FORM_WORDS = 1;
    private static final int FORM_STEPPED = 2;
    private static final int FORM_PREDICTED = 3;
    private static final int FORM_OTHER = 4;

    private static final int WHAT_PLACE = 0;
    private static final int WHAT_ID = 1;
    private static final int WHAT_SIZE = 2;

    // Ids are kept as big numbers, so that one comparison tells them apart.
    private static final int ID_RIFF = 0x52494646;
    private static final int ID_WAVE = 0x57415645;
    private static final int ID_FMT = 0x666D7420;
    private static final int ID_FACT = 0x66616374;
    private static final int ID_DATA = 0x64617461;
    private static final int ID_FORM = 0x464F524D;
    private static final int ID_AIFF = 0x41494646;
    private static final int ID_COMM = 0x434F4D4D;
    private static final int ID_SSND = 0x53534E44;

    private static final int FIRST_CHUNK = 12;
    private static final int CHUNK_HEAD = 8;
    private static final int MOST_CHUNKS = MOST_BYTES / CHUNK_HEAD;
    private static final int FACT_SIZE = 4;
    private static final int COMM_SIZE = 18;
    private static final int SSND_HEAD = 8;

    private static final int EXPONENT_OF_ONE = 16383;
    private static final int MOST_EXPONENT = 17;

    private static final int LAST_STEP = 88;
    private static final int LAST_PAIR = 6;
    private static final int LEAST_DELTA = 16;
    private static final int MOST_DELTA = 32767;

    private static final int[] STEPS = {
        7, 8, 9, 10, 11, 12, 13, 14, 16, 17, 19, 21, 23, 25, 28, 31, 34, 37, 41, 45, 50, 55, 60, 66, 73, 80, 88, 97,
        107, 118, 130, 143, 157, 173, 190, 209, 230, 253, 279, 307, 337, 371, 408, 449, 494, 544, 598, 658, 724, 796,
        876, 963, 1060, 1166, 1282, 1411, 1552, 1707, 1878, 2066, 2272, 2499, 2749, 3024, 3327, 3660, 4026, 4428,
        4871, 5358, 5894, 6484, 7132, 7845, 8630, 9493, 10442, 11487, 12635, 13899, 15289, 16818, 18500, 20350,
        22385, 24623, 27086, 29794, 32767
    };
    private static final int[] INDEX_CHANGES = {-1, -1, -1, -1, 2, 4, 6, 8};
    // The pairs (c, e) one after the other, as "fmt " lists them.
    private static final int[] PAIRS = {256, 0, 512, -256, 0, 0, 192, 64, 240, 0, 460, -208, 392, -232};
    private static final int[] DELTA_FACTORS = {
        230, 230, 230, 230, 307, 409, 512, 614, 768, 614, 512, 409, 307, 230, 230, 230
    };

    private final Sound sound;
    private final Bytes file;
    private final Writer writer;
    private final Reader reader;
    private int formRead;

    public SoundShelf() {
        sound = new Sound();
        file = new Bytes();
        writer = new Writer(sound, file);
        reader = new Reader(file);
        formRead = NONE;
    }

    public int add(int sample) throws IllegalArgumentException, IllegalStateException {
        if (sample < LEAST_SAMPLE || sample > GREATEST_SAMPLE) {
            throw new IllegalArgumentException("a sample is -32768 .. 32767");
        }
        if (sound.count >= MOST_SAMPLES) {
            throw new IllegalStateException("there are 64 samples");
        }
        sound.append(sample);
        return sound.count;
    }

    public int clear() {
        int were = sound.count;
        sound.count = 0;
        return were;
    }

    public int samples() {
        return sound.count;
    }

    public int at(int i) throws IndexOutOfBoundsException {
        if (i < 0 || i >= sound.count) {
            throw new IndexOutOfBoundsException("there is no such sample");
        }
        return sound.row[i];
    }

    public int tune(int rate) throws IllegalArgumentException {
        if (rate < 1 || rate > MOST_RATE) {
            throw new IllegalArgumentException("a rate is 1 .. 192000");
        }
        int was = sound.pace;
        sound.pace = rate;
        return was;
    }

    public int rate() {
        return sound.pace;
    }

    public int write(int form, int size) throws IllegalArgumentException {
        if (!isWritable(form, size)) {
            throw new IllegalArgumentException("there is no such form, or not with this size");
        }
        switch (form) {
            case FORM_BYTES:
                writer.writePlain(1);
                break;
            case FORM_WORDS:
                writer.writePlain(2);
                break;
            case FORM_STEPPED:
                writer.writeStepped(size);
                break;
            case FORM_PREDICTED:
                writer.writePredicted(size);
                break;
            default:
                writer.writeOther(size);
                break;
        }
        return file.count;
    }

    public int read() {
        int failed = reader.readFile();
        if (failed == NONE) {
            sound.copyFrom(reader.draft);
            formRead = reader.formOfFile();
        }
        return failed;
    }

    public int form() throws IllegalStateException {
        if (formRead == NONE) {
            throw new IllegalStateException("no file was read yet");
        }
        return formRead;
    }

    public int size() {
        return file.count;
    }

    public int byteAt(int k) throws IndexOutOfBoundsException {
        if (k < 0 || k >= file.count) {
            throw new IndexOutOfBoundsException("there is no such byte");
        }
        return file.row[k];
    }

    public void poke(int k, int b) throws IndexOutOfBoundsException, IllegalArgumentException {
        if (k < 0 || k >= file.count) {
            throw new IndexOutOfBoundsException("there is no such byte");
        }
        if (b < 0 || b > 255) {
            throw new IllegalArgumentException("a byte is 0 .. 255");
        }
        file.row[k] = b;
    }

    public int type(long bytes, int n) throws IllegalArgumentException, IllegalStateException {
        if (n < 1 || n > 8) {
            throw new IllegalArgumentException("1 .. 8 bytes are typed at once");
        }
        if (file.count + n > MOST_BYTES) {
            throw new IllegalStateException("a file has at most 400 bytes");
        }
        file.putBig(bytes, n);
        return file.count;
    }

    public void cut(int n) throws IllegalArgumentException {
        if (n < 0 || n > file.count) {
            throw new IllegalArgumentException("the file has not so many bytes");
        }
        file.count = n;
    }

    public int chunks() {
        int whole = 0;
        int end = endOfChunk(FIRST_CHUNK);
        while (end != NONE && whole < MOST_CHUNKS) {
            whole++;
            end = endOfChunk(end);
        }
        return whole;
    }

    public int chunk(int k, int what) throws IllegalArgumentException, NoSuchElementException {
        if (what != WHAT_PLACE && what != WHAT_ID && what != WHAT_SIZE) {
            throw new IllegalArgumentException("0, 1 and 2 are what can be asked");
        }
        int place = placeOfChunk(k);
        if (place == NONE) {
            throw new NoSuchElementException("there is no such chunk");
        }
        if (what == WHAT_PLACE) {
            return place;
        }
        return what == WHAT_ID ? file.idAt(place) : (int) sizeOfChunk(place);
    }

    private static boolean isWritable(int form, int size) {
        switch (form) {
            case FORM_BYTES:
            case FORM_WORDS:
                return true;
            case FORM_STEPPED:
            case FORM_PREDICTED:
                return size >= 1 && size <= 8;
            case FORM_OTHER:
                return size >= 1 && size <= 16;
            default:
                return false;
        }
    }

    private int placeOfChunk(int k) {
        if (k < 0 || k >= MOST_CHUNKS) {
            return NONE;
        }
        int place = FIRST_CHUNK;
        for (int i = 0; i < k && place != NONE; i++) {
            place = endOfChunk(place);
        }
        return place == NONE || endOfChunk(place) == NONE ? NONE : place;
    }

    private int endOfChunk(int place) {
        if (!file.has(place, CHUNK_HEAD)) {
            return NONE;
        }
        long size = sizeOfChunk(place);
        long end = place + CHUNK_HEAD + size + size % 2;
        return end > file.count ? NONE : (int) end;
    }

    private long sizeOfChunk(int place) {
        boolean little = file.has(0, 1) && file.row[0] == ID_RIFF >> 24;
        return file.numberAt(place + 4, 4, !little);
    }

    private static int limit(int number, int least, int most) {
        if (number < least) {
            return least;
        }
        return number > most ? most : number;
    }

    /** Samples and their rate. */
    private static final class Sound {
        final int[] row = new int[MOST_SAMPLES];
        int count;
        int pace = FIRST_RATE;

        void append(int sample) {
            if (count < row.length) {
                row[count] = sample;
                count++;
            }
        }

        void copyFrom(Sound other) {
            System.arraycopy(other.row, 0, row, 0, other.count);
            count = other.count;
            pace = other.pace;
        }
    }

    /** The bytes of the file, and numbers in them of both orders. */
    private static final class Bytes {
        final int[] row = new int[MOST_BYTES];
        int count;

        void put(int number) {
            if (count < row.length) {
                row[count] = number & 255;
                count++;
            }
        }

        void putLittle(long number, int n) {
            for (int i = 0; i < n; i++) {
                put((int) (number >> 8 * i));
            }
        }

        void putBig(long number, int n) {
            for (int i = n - 1; i >= 0; i--) {
                put((int) (number >> 8 * i));
            }
        }

        boolean has(int place, int n) {
            return place >= 0 && n <= count - place;
        }

        /** Without sign if n is below 8; 0 where there are not so many bytes. */
        long numberAt(int place, int n, boolean big) {
            if (!has(place, n)) {
                return 0;
            }
            long number = 0;
            for (int i = 0; i < n; i++) {
                number = number << 8 | row[big ? place + i : place + n - 1 - i];
            }
            return number;
        }

        int idAt(int place) {
            return (int) numberAt(place, 4, true);
        }
    }

    /** What "fmt " tells of a wave file: its tag and its align, and what follows from them. */
    private static final class Fmt {
        static final int NO_TAG = 0;
        static final int PLAIN = 1;
        static final int PREDICTED = 2;
        static final int STEPPED = 17;

        static final int PLAIN_SIZE = 16;
        static final int STEPPED_SIZE = 20;
        static final int PREDICTED_SIZE = 50;

        static final int STEPPED_HEAD = 4;
        static final int PREDICTED_HEAD = 7;

        int tag;
        int head;
        int align;
        // It divides, so it is never 0.
        int inBlock = 1;

        static int tagOfSize(long size) {
            if (size == PLAIN_SIZE) {
                return PLAIN;
            }
            if (size == STEPPED_SIZE) {
                return STEPPED;
            }
            return size == PREDICTED_SIZE ? PREDICTED : NO_TAG;
        }

        void setTag(int newTag) {
            tag = newTag;
            head = 0;
            if (tag == STEPPED) {
                head = STEPPED_HEAD;
            } else if (tag == PREDICTED) {
                head = PREDICTED_HEAD;
            }
        }

        void setAlign(int newAlign) {
            align = newAlign;
            inBlock = 1;
            if (hasBlocks()) {
                inBlock = Math.max(1, 2 * bytesOfNibbles() + (tag == STEPPED ? 1 : 2));
            }
        }

        boolean hasBlocks() {
            return tag == STEPPED || tag == PREDICTED;
        }

        int sizeOfFmt() {
            if (tag == PLAIN) {
                return PLAIN_SIZE;
            }
            return tag == STEPPED ? STEPPED_SIZE : PREDICTED_SIZE;
        }

        /** How many bytes of "fmt " stand behind the number that tells this. */
        int sizeOfMore() {
            return sizeOfFmt() - PLAIN_SIZE - 2;
        }

        int leastAlign() {
            return head + 1;
        }

        int mostAlign() {
            return head + (hasBlocks() ? 8 : 2);
        }

        int bits() {
            return hasBlocks() ? 4 : 8 * align;
        }

        int bytesOfNibbles() {
            return align - head;
        }

        int bytesASecond(int rate) {
            return rate * align / inBlock;
        }

        int sizeOfData(int samples) {
            return (samples + inBlock - 1) / inBlock * align;
        }
    }

    /** Samples from nibbles: what the next one would be, and what changes when it is taken. */
    private abstract static class Coder {
        abstract int next(int nibble);

        abstract void accept(int nibble, int sample);

        int nearest(int wanted) {
            int best = 0;
            int least = Math.abs(next(0) - wanted);
            for (int nibble = 1; nibble < 16; nibble++) {
                int distance = Math.abs(next(nibble) - wanted);
                if (distance < least) {
                    best = nibble;
                    least = distance;
                }
            }
            return best;
        }
    }

    private static final class Stepper extends Coder {
        int before;
        int index;

        void start(int firstSample, int firstIndex) {
            before = firstSample;
            index = limit(firstIndex, 0, LAST_STEP);
        }

        @Override
        int next(int nibble) {
            int step = STEPS[index];
            int difference = step >> 3;
            if ((nibble & 1) != 0) {
                difference += step >> 2;
            }
            if ((nibble & 2) != 0) {
                difference += step >> 1;
            }
            if ((nibble & 4) != 0) {
                difference += step;
            }
            int sample = (nibble & 8) != 0 ? before - difference : before + difference;
            return limit(sample, LEAST_SAMPLE, GREATEST_SAMPLE);
        }

        @Override
        void accept(int nibble, int sample) {
            before = sample;
            index = limit(index + INDEX_CHANGES[nibble & 7], 0, LAST_STEP);
        }
    }

    private static final class Predictor extends Coder {
        int before;
        int twoBefore;
        int delta;
        int pair;

        void start(int firstSample, int secondSample, int firstDelta, int firstPair) {
            twoBefore = firstSample;
            before = secondSample;
            delta = firstDelta;
            pair = limit(firstPair, 0, LAST_PAIR);
        }

        @Override
        int next(int nibble) {
            int weight = nibble < 8 ? nibble : nibble - 16;
            int foreseen = before * PAIRS[2 * pair] + twoBefore * PAIRS[2 * pair + 1] >> 8;
            return limit(foreseen + weight * delta, LEAST_SAMPLE, GREATEST_SAMPLE);
        }

        @Override
        void accept(int nibble, int sample) {
            twoBefore = before;
            before = sample;
            delta = limit(delta * DELTA_FACTORS[nibble & 15] >> 8, LEAST_DELTA, MOST_DELTA);
        }
    }

    /** Writes the sound as the file. */
    private static final class Writer {
        final Sound sound;
        final Bytes file;
        final Fmt fmt = new Fmt();
        final Stepper stepper = new Stepper();
        final Predictor predictor = new Predictor();
        // Long enough for the nibbles of the largest block, so that no block makes a row.
        final int[] nibbles = new int[16];

        Writer(Sound sound, Bytes file) {
            this.sound = sound;
            this.file = file;
        }

        void writePlain(int align) {
            startWave(Fmt.PLAIN, align);
            for (int i = 0; i < sound.count; i++) {
                if (align == 1) {
                    file.put((sound.row[i] >> 8) + 128);
                } else {
                    file.putLittle(sound.row[i], 2);
                }
            }
            putByteBehind(fmt.sizeOfData(sound.count));
        }

        void writeStepped(int bytesOfNibbles) {
            startWave(Fmt.STEPPED, Fmt.STEPPED_HEAD + bytesOfNibbles);
            int index = 0;
            for (int first = 0; first < sound.count; first += fmt.inBlock) {
                file.putLittle(sound.row[first], 2);
                file.put(index);
                file.put(0);
                stepper.start(sound.row[first], index);
                chooseNibbles(stepper, first + 1);
                putNibbles(0, 4);
                index = stepper.index;
            }
            putByteBehind(fmt.sizeOfData(sound.count));
        }

        void writePredicted(int bytesOfNibbles) {
            startWave(Fmt.PREDICTED, Fmt.PREDICTED_HEAD + bytesOfNibbles);
            int delta = LEAST_DELTA;
            for (int first = 0; first < sound.count; first += fmt.inBlock) {
                int pair = bestPair(first, delta);
                file.put(pair);
                file.putLittle(delta, 2);
                file.putLittle(secondOfBlock(first), 2);
                file.putLittle(sound.row[first], 2);
                startPair(first, delta, pair);
                chooseNibbles(predictor, first + 2);
                putNibbles(4, 0);
                delta = predictor.delta;
            }
            putByteBehind(fmt.sizeOfData(sound.count));
        }

        void writeOther(int bits) {
            int width = bits <= 8 ? 8 : 16;
            int sizeOfSsnd = SSND_HEAD + sound.count * (width / 8);
            startOther(bits, sizeOfSsnd);
            file.putBig(ID_SSND, 4);
            file.putBig(sizeOfSsnd, 4);
            file.putBig(0, 8);
            for (int i = 0; i < sound.count; i++) {
                file.putBig(sound.row[i] >> 16 - bits << width - bits, width / 8);
            }
            putByteBehind(sizeOfSsnd);
        }

        private void startWave(int tag, int align) {
            fmt.setTag(tag);
            fmt.setAlign(align);
            int sizeOfData = fmt.sizeOfData(sound.count);
            int bytesOfFact = fmt.hasBlocks() ? CHUNK_HEAD + FACT_SIZE : 0;
            int bytesOfData = CHUNK_HEAD + sizeOfData + sizeOfData % 2;
            file.count = 0;
            file.putBig(ID_RIFF, 4);
            file.putLittle(4 + CHUNK_HEAD + fmt.sizeOfFmt() + bytesOfFact + bytesOfData, 4);
            file.putBig(ID_WAVE, 4);
            putFmt();
            if (fmt.hasBlocks()) {
                file.putBig(ID_FACT, 4);
                file.putLittle(FACT_SIZE, 4);
                file.putLittle(sound.count, 4);
            }
            file.putBig(ID_DATA, 4);
            file.putLittle(sizeOfData, 4);
        }

        private void putFmt() {
            file.putBig(ID_FMT, 4);
            file.putLittle(fmt.sizeOfFmt(), 4);
            file.putLittle(fmt.tag, 2);
            file.putLittle(1, 2);
            file.putLittle(sound.pace, 4);
            file.putLittle(fmt.bytesASecond(sound.pace), 4);
            file.putLittle(fmt.align, 2);
            file.putLittle(fmt.bits(), 2);
            if (fmt.hasBlocks()) {
                file.putLittle(fmt.sizeOfMore(), 2);
                file.putLittle(fmt.inBlock, 2);
            }
            if (fmt.tag == Fmt.PREDICTED) {
                file.putLittle(LAST_PAIR + 1, 2);
                for (int number : PAIRS) {
                    file.putLittle(number, 2);
                }
            }
        }

        private void startOther(int bits, int sizeOfSsnd) {
            int exponent = 0;
            while (exponent < MOST_EXPONENT && sound.pace >> exponent > 1) {
                exponent++;
            }
            file.count = 0;
            file.putBig(ID_FORM, 4);
            file.putBig(4 + CHUNK_HEAD + COMM_SIZE + CHUNK_HEAD + sizeOfSsnd + sizeOfSsnd % 2, 4);
            file.putBig(ID_AIFF, 4);
            file.putBig(ID_COMM, 4);
            file.putBig(COMM_SIZE, 4);
            file.putBig(1, 2);
            file.putBig(sound.count, 4);
            file.putBig(bits, 2);
            file.putBig(EXPONENT_OF_ONE + exponent, 2);
            file.putBig((long) sound.pace << 63 - exponent, 8);
        }

        private void putByteBehind(int sizeOfChunk) {
            if (sizeOfChunk % 2 != 0) {
                file.put(0);
            }
        }

        private int secondOfBlock(int first) {
            return sound.row[first + 1 < sound.count ? first + 1 : first];
        }

        private int bestPair(int first, int delta) {
            int best = 0;
            int least = 0;
            for (int pair = 0; pair <= LAST_PAIR; pair++) {
                startPair(first, delta, pair);
                int distances = chooseNibbles(predictor, first + 2);
                if (pair == 0 || distances < least) {
                    best = pair;
                    least = distances;
                }
            }
            return best;
        }

        private void startPair(int first, int delta, int pair) {
            predictor.start(sound.row[first], secondOfBlock(first), delta, pair);
        }

        /** Fills the row of nibbles for a block, and tells how far its samples are from the sound's in all. */
        private int chooseNibbles(Coder coder, int from) {
            int distances = 0;
            int many = Math.min(nibbles.length, 2 * fmt.bytesOfNibbles());
            for (int i = 0; i < many; i++) {
                nibbles[i] = 0;
                if (from + i < sound.count) {
                    int wanted = sound.row[from + i];
                    nibbles[i] = coder.nearest(wanted);
                    distances += Math.abs(coder.next(nibbles[i]) - wanted);
                }
                coder.accept(nibbles[i], coder.next(nibbles[i]));
            }
            return distances;
        }

        private void putNibbles(int shiftOfFirst, int shiftOfSecond) {
            int many = Math.min(nibbles.length, 2 * fmt.bytesOfNibbles());
            for (int i = 0; i + 1 < many; i += 2) {
                file.put(nibbles[i] << shiftOfFirst | nibbles[i + 1] << shiftOfSecond);
            }
        }
    }

    /** Reads the file into a draft; its place stands where reading failed. */
    private static final class Reader {
        final Bytes file;
        final Sound draft = new Sound();
        final Fmt fmt = new Fmt();
        final Stepper stepper = new Stepper();
        final Predictor predictor = new Predictor();
        int place;
        long taken;
        boolean big;
        boolean hasFact;
        boolean hasComm;
        int promised;
        int bits;

        Reader(Bytes file) {
            this.file = file;
        }

        int readFile() {
            place = 0;
            hasFact = false;
            hasComm = false;
            fmt.setTag(Fmt.NO_TAG);
            draft.count = 0;
            boolean right = takeHead();
            for (int i = 0; i < MOST_CHUNKS && right && !isAtSamples(); i++) {
                right = takeChunk();
            }
            right = right && (big ? takeSsnd() : takeData()) && place == file.count;
            return right ? NONE : place;
        }

        int formOfFile() {
            if (big) {
                return FORM_OTHER;
            }
            if (fmt.hasBlocks()) {
                return fmt.tag == Fmt.STEPPED ? FORM_STEPPED : FORM_PREDICTED;
            }
            return fmt.align == 1 ? FORM_BYTES : FORM_WORDS;
        }

        private boolean takeHead() {
            big = file.has(place, 4) && file.idAt(place) == ID_FORM;
            return takeId(big ? ID_FORM : ID_RIFF)
                && take(4, file.count - 8)
                && takeId(big ? ID_AIFF : ID_WAVE);
        }

        private boolean isAtSamples() {
            return file.has(place, 4) && file.idAt(place) == (big ? ID_SSND : ID_DATA);
        }

        /** Takes a chunk before the one with the samples. */
        private boolean takeChunk() {
            if (!file.has(place, 4)) {
                return false;
            }
            int id = file.idAt(place);
            if (big && id == ID_COMM) {
                return !hasComm && takeComm();
            }
            if (!big && id == ID_FMT) {
                return fmt.tag == Fmt.NO_TAG && takeFmt();
            }
            if (!big && id == ID_FACT && fmt.hasBlocks()) {
                return !hasFact && takeFact();
            }
            return passOver();
        }

        private boolean takeFmt() {
            if (!takeId(ID_FMT) || !file.has(place, 4)) {
                return false;
            }
            long size = file.numberAt(place, 4, big);
            fmt.setTag(Fmt.tagOfSize(size));
            if (fmt.tag == Fmt.NO_TAG || !takeSize(size)) {
                return false;
            }
            if (!take(2, fmt.tag) || !take(2, 1) || !takeWithin(4, 1, MOST_RATE)) {
                return false;
            }
            draft.pace = (int) taken;
            int placeOfSpeed = place;
            place += 4;
            return takeAlign() && takeMoreOfFmt() && isSpeedRight(placeOfSpeed);
        }

        private boolean takeAlign() {
            if (!takeWithin(2, fmt.leastAlign(), fmt.mostAlign())) {
                return false;
            }
            fmt.setAlign((int) taken);
            return take(2, fmt.bits());
        }

        private boolean takeMoreOfFmt() {
            if (!fmt.hasBlocks()) {
                return true;
            }
            if (!take(2, fmt.sizeOfMore()) || !take(2, fmt.inBlock)) {
                return false;
            }
            if (fmt.tag == Fmt.STEPPED) {
                return true;
            }
            boolean right = take(2, LAST_PAIR + 1);
            for (int number : PAIRS) {
                right = right && take(2, number & 0xFFFF);
            }
            return right;
        }

        /** Bytes a second hang on the align behind them, so they are looked at when the rest is right. */
        private boolean isSpeedRight(int placeOfSpeed) {
            int end = place;
            place = placeOfSpeed;
            if (!take(4, fmt.bytesASecond(draft.pace))) {
                return false;
            }
            place = end;
            return true;
        }

        private boolean takeFact() {
            if (!takeId(ID_FACT) || !takeSize(FACT_SIZE) || !takeWithin(4, 0, MOST_SAMPLES)) {
                return false;
            }
            promised = (int) taken;
            hasFact = true;
            return true;
        }

        private boolean takeComm() {
            if (!takeId(ID_COMM) || !takeSize(COMM_SIZE) || !take(2, 1) || !takeWithin(4, 0, MOST_SAMPLES)) {
                return false;
            }
            promised = (int) taken;
            if (!takeWithin(2, 1, 16)) {
                return false;
            }
            bits = (int) taken;
            hasComm = true;
            return takeLongRate();
        }

        private boolean takeLongRate() {
            if (!takeWithin(2, EXPONENT_OF_ONE, EXPONENT_OF_ONE + MOST_EXPONENT) || !file.has(place, 8)) {
                return false;
            }
            int exponent = (int) taken - EXPONENT_OF_ONE;
            long number = file.numberAt(place, 8, big);
            long rate = number >>> 63 - exponent;
            if (rate << 63 - exponent != number || rate >> exponent != 1 || rate > MOST_RATE) {
                return false;
            }
            draft.pace = (int) rate;
            place += 8;
            return true;
        }

        private boolean passOver() {
            place += 4;
            if (!file.has(place, 4)) {
                return false;
            }
            long size = file.numberAt(place, 4, big);
            if (!takeSize(size)) {
                return false;
            }
            place += (int) size;
            return takeByteBehind(size);
        }

        private boolean takeData() {
            boolean allThere = fmt.tag == Fmt.PLAIN || fmt.hasBlocks() && hasFact;
            if (!allThere || !takeId(ID_DATA) || !file.has(place, 4)) {
                return false;
            }
            if (fmt.tag == Fmt.PLAIN) {
                promised = samplesOfPlain(file.numberAt(place, 4, big));
            }
            int size = fmt.sizeOfData(promised);
            if (!takeSize(size)) {
                return false;
            }
            if (fmt.tag == Fmt.PLAIN) {
                takePlain();
                return takeByteBehind(size);
            }
            return (fmt.tag == Fmt.STEPPED ? takeStepped() : takePredicted()) && takeByteBehind(size);
        }

        /** The most samples that such a size can have; a size that is not theirs is refused when it is taken. */
        private int samplesOfPlain(long size) {
            return (int) Math.min(MOST_SAMPLES, fmt.align == 2 ? size / 2 : size);
        }

        private void takePlain() {
            for (int i = 0; i < promised; i++) {
                if (fmt.align == 1) {
                    draft.append(((int) file.numberAt(place, 1, big) - 128) * 256);
                } else {
                    draft.append((short) file.numberAt(place, 2, big));
                }
                place += fmt.align;
            }
        }

        private boolean takeStepped() {
            for (int first = 0; first < promised; first += fmt.inBlock) {
                int sample = takeWord();
                if (!takeWithin(1, 0, LAST_STEP)) {
                    return false;
                }
                stepper.start(sample, (int) taken);
                if (!take(1, 0)) {
                    return false;
                }
                appendPromised(sample);
                takeNibbles(stepper, 0, 4);
            }
            return true;
        }

        private boolean takePredicted() {
            for (int first = 0; first < promised; first += fmt.inBlock) {
                if (!takeWithin(1, 0, LAST_PAIR)) {
                    return false;
                }
                int pair = (int) taken;
                if (!takeWithin(2, 1, 0xFFFF)) {
                    return false;
                }
                int delta = (int) taken;
                int secondSample = takeWord();
                int firstSample = takeWord();
                predictor.start(firstSample, secondSample, delta, pair);
                appendPromised(firstSample);
                appendPromised(secondSample);
                takeNibbles(predictor, 4, 0);
            }
            return true;
        }

        private int takeWord() {
            int word = (short) file.numberAt(place, 2, big);
            place += 2;
            return word;
        }

        private void takeNibbles(Coder coder, int shiftOfFirst, int shiftOfSecond) {
            for (int i = 0; i < fmt.bytesOfNibbles(); i++) {
                int both = (int) file.numberAt(place, 1, big);
                for (int half = 0; half < 2; half++) {
                    int nibble = both >> (half == 0 ? shiftOfFirst : shiftOfSecond) & 15;
                    int sample = coder.next(nibble);
                    coder.accept(nibble, sample);
                    appendPromised(sample);
                }
                place++;
            }
        }

        /** The last block is whole, but the sound ends with the samples that the file promised. */
        private void appendPromised(int sample) {
            if (draft.count < promised) {
                draft.append(sample);
            }
        }

        private boolean takeSsnd() {
            int width = bits <= 8 ? 8 : 16;
            int size = SSND_HEAD + promised * (width / 8);
            if (!hasComm || !takeId(ID_SSND) || !takeSize(size) || !take(4, 0) || !take(4, 0)) {
                return false;
            }
            for (int i = 0; i < promised; i++) {
                int number = (int) file.numberAt(place, width / 8, big);
                if ((number & (1 << width - bits) - 1) != 0) {
                    return false;
                }
                draft.append((short) (number << 16 - width));
                place += width / 8;
            }
            return takeByteBehind(size);
        }

        private boolean takeId(int id) {
            if (!file.has(place, 4) || file.idAt(place) != id) {
                return false;
            }
            place += 4;
            return true;
        }

        private boolean takeSize(long size) {
            return file.has(place, 4)
                && size + size % 2 <= file.count - place - 4
                && take(4, size);
        }

        private boolean takeByteBehind(long sizeOfChunk) {
            return sizeOfChunk % 2 == 0 || take(1, 0);
        }

        private boolean take(int n, long number) {
            if (!file.has(place, n) || file.numberAt(place, n, big) != number) {
                return false;
            }
            place += n;
            return true;
        }

        private boolean takeWithin(int n, long least, long most) {
            if (!file.has(place, n)) {
                return false;
            }
            taken = file.numberAt(place, n, big);
            if (taken < least || taken > most) {
                return false;
            }
            place += n;
            return true;
        }
    }
}
