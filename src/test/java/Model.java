import java.io.ByteArrayOutputStream;
import java.nio.ByteBuffer;
import java.nio.ByteOrder;
import java.nio.charset.StandardCharsets;
import java.util.ArrayList;
import java.util.Arrays;
import java.util.HashSet;
import java.util.List;
import java.util.Set;

/** The document once more, written with the whole library and another way, for comparison with the program. */
final class Model {
    static final class Failed extends Exception {
        private static final long serialVersionUID = 1;
        final int place;

        Failed(int place) {
            this.place = place;
        }
    }

    private static final String STEP_ROW = "7 8 9 10 11 12 13 14 16 17 19 21 23 25 28 31 34 37 41 45 50 55 60 66 73 80 "
        + "88 97 107 118 130 143 157 173 190 209 230 253 279 307 337 371 408 449 494 544 598 658 724 796 876 963 1060 "
        + "1166 1282 1411 1552 1707 1878 2066 2272 2499 2749 3024 3327 3660 4026 4428 4871 5358 5894 6484 7132 7845 "
        + "8630 9493 10442 11487 12635 13899 15289 16818 18500 20350 22385 24623 27086 29794 32767";
    private static final int[] STEP = Arrays.stream(STEP_ROW.split(" ")).mapToInt(Integer::parseInt).toArray();
    private static final int[][] PAIR = {{256, 0}, {512, -256}, {0, 0}, {192, 64}, {240, 0}, {460, -208}, {392, -232}};
    private static final int[] FACTOR = {
        230, 230, 230, 230, 307, 409, 512, 614, 768, 614, 512, 409, 307, 230, 230, 230
    };

    List<Integer> samples = new ArrayList<>();
    int rate = 8000;
    byte[] file = {};
    int form = -1;

    private static int cut(long number) {
        return (int) Math.min(32767, Math.max(-32768, number));
    }

    private static byte[] id(String name) {
        return name.getBytes(StandardCharsets.ISO_8859_1);
    }

    private static byte[] join(byte[]... parts) {
        ByteArrayOutputStream all = new ByteArrayOutputStream();
        for (byte[] part : parts) {
            all.writeBytes(part);
        }
        return all.toByteArray();
    }

    private static ByteBuffer buffer(int n, ByteOrder order) {
        return ByteBuffer.allocate(n).order(order);
    }

    private static byte[] chunk(String name, byte[] bytes, ByteOrder order) {
        byte[] head = buffer(4, order).putInt(bytes.length).array();
        return join(id(name), head, bytes, new byte[bytes.length % 2]);
    }

    private static byte[] whole(String name, String kind, ByteOrder order, byte[]... chunks) {
        byte[] all = join(chunks);
        return join(id(name), buffer(4, order).putInt(all.length + 4).array(), id(kind), all);
    }

    // ---- writing

    void write(int asForm, int size) {
        if (asForm == 4) {
            file = whole("FORM", "AIFF", ByteOrder.BIG_ENDIAN, chunk("COMM", comm(size), ByteOrder.BIG_ENDIAN),
                chunk("SSND", join(new byte[8], ssnd(size)), ByteOrder.BIG_ENDIAN));
            return;
        }
        ByteOrder little = ByteOrder.LITTLE_ENDIAN;
        byte[] data = asForm < 2 ? plain(asForm) : asForm == 2 ? stepped(size) : predicted(size);
        byte[] fact = asForm < 2 ? new byte[0]
            : chunk("fact", buffer(4, little).putInt(samples.size()).array(), little);
        file = whole("RIFF", "WAVE", little, chunk("fmt ", fmt(asForm, size), little), fact, chunk("data", data, little));
    }

    private byte[] fmt(int asForm, int size) {
        int align = new int[] {1, 2, size + 4, size + 7}[asForm];
        int inBlock = new int[] {1, 1, 2 * size + 1, 2 * size + 2}[asForm];
        ByteBuffer fmt = buffer(new int[] {16, 16, 20, 50}[asForm], ByteOrder.LITTLE_ENDIAN);
        fmt.putShort((short) new int[] {1, 1, 17, 2}[asForm]).putShort((short) 1).putInt(rate);
        fmt.putInt((int) Math.floor((double) rate * align / inBlock));
        fmt.putShort((short) align).putShort((short) new int[] {8, 16, 4, 4}[asForm]);
        if (asForm >= 2) {
            fmt.putShort((short) (asForm == 2 ? 2 : 32)).putShort((short) inBlock);
        }
        if (asForm == 3) {
            fmt.putShort((short) 7);
            for (int[] pair : PAIR) {
                fmt.putShort((short) pair[0]).putShort((short) pair[1]);
            }
        }
        return fmt.array();
    }

    private byte[] plain(int asForm) {
        ByteBuffer data = buffer(samples.size() * (asForm + 1), ByteOrder.LITTLE_ENDIAN);
        for (int sample : samples) {
            if (asForm == 0) {
                data.put((byte) (Math.floorDiv(sample, 256) + 128));
            } else {
                data.putShort((short) sample);
            }
        }
        return data.array();
    }

    private byte[] comm(int bits) {
        int e = 0;
        while (2L << e <= rate) {
            e++;
        }
        return buffer(18, ByteOrder.BIG_ENDIAN).putShort((short) 1).putInt(samples.size()).putShort((short) bits)
            .putShort((short) (16383 + e)).putLong((long) rate << 63 - e).array();
    }

    private byte[] ssnd(int bits) {
        int width = bits > 8 ? 16 : 8;
        ByteBuffer data = buffer(samples.size() * width / 8, ByteOrder.BIG_ENDIAN);
        for (int sample : samples) {
            int number = Math.floorDiv(sample, 1 << 16 - bits) * (1 << width - bits);
            if (width == 8) {
                data.put((byte) number);
            } else {
                data.putShort((short) number);
            }
        }
        return data.array();
    }

    private static int stepSample(int before, int index, int v) {
        int s = STEP[index];
        int d = s / 8 + (v & 1) * (s / 4) + (v >> 1 & 1) * (s / 2) + (v >> 2 & 1) * s;
        return cut(v < 8 ? before + d : before - d);
    }

    private static int stepIndex(int index, int v) {
        int change = v % 8 < 4 ? -1 : 2 * (v % 8 - 3);
        return Math.min(88, Math.max(0, index + change));
    }

    private byte[] stepped(int m) {
        ByteArrayOutputStream data = new ByteArrayOutputStream();
        int index = 0;
        for (int first = 0; first < samples.size(); first += 2 * m + 1) {
            int sample = samples.get(first);
            data.writeBytes(buffer(4, ByteOrder.LITTLE_ENDIAN).putShort((short) sample).put((byte) index).array());
            int[] nibbles = new int[2 * m];
            for (int i = 0; i < 2 * m; i++) {
                int at = first + 1 + i;
                int v = 0;
                for (int other = 15; at < samples.size() && other >= 0; other--) {
                    int wanted = samples.get(at);
                    boolean asNear = Math.abs(stepSample(sample, index, other) - wanted)
                        <= Math.abs(stepSample(sample, index, v) - wanted);
                    v = asNear ? other : v;
                }
                nibbles[i] = v;
                sample = stepSample(sample, index, v);
                index = stepIndex(index, v);
            }
            for (int i = 0; i < 2 * m; i += 2) {
                data.write(nibbles[i] + 16 * nibbles[i + 1]);
            }
        }
        return data.toByteArray();
    }

    private static int predictedSample(int x, int y, int pair, int delta, int v) {
        int w = v >= 8 ? v - 16 : v;
        return cut(Math.floorDiv((long) x * PAIR[pair][0] + (long) y * PAIR[pair][1], 256L) + (long) w * delta);
    }

    private static int nextDelta(int delta, int v) {
        return Math.min(32767, Math.max(16, delta * FACTOR[v] / 256));
    }

    /** What a pair comes to: its nibbles, the delta at the end, and the sum of the distances. */
    private record Trial(int[] nibbles, int delta, long sum) {
    }

    private Trial trial(int first, int m, int pair, int startDelta) {
        int y = samples.get(first);
        int x = first + 1 < samples.size() ? samples.get(first + 1) : y;
        int delta = startDelta;
        long sum = 0;
        int[] nibbles = new int[2 * m];
        for (int i = 0; i < 2 * m; i++) {
            int at = first + 2 + i;
            int v = 0;
            if (at < samples.size()) {
                long nearest = Long.MAX_VALUE;
                for (int other = 0; other < 16; other++) {
                    long distance = Math.abs(predictedSample(x, y, pair, delta, other) - samples.get(at));
                    if (distance < nearest) {
                        nearest = distance;
                        v = other;
                    }
                }
                sum += nearest;
            }
            nibbles[i] = v;
            int next = predictedSample(x, y, pair, delta, v);
            y = x;
            x = next;
            delta = nextDelta(delta, v);
        }
        return new Trial(nibbles, delta, sum);
    }

    private byte[] predicted(int m) {
        ByteArrayOutputStream data = new ByteArrayOutputStream();
        int delta = 16;
        for (int first = 0; first < samples.size(); first += 2 * m + 2) {
            int best = 6;
            for (int pair = 5; pair >= 0; pair--) {
                best = trial(first, m, pair, delta).sum <= trial(first, m, best, delta).sum ? pair : best;
            }
            Trial chosen = trial(first, m, best, delta);
            int second = samples.get(Math.min(first + 1, samples.size() - 1));
            data.writeBytes(buffer(7, ByteOrder.LITTLE_ENDIAN).put((byte) best).putShort((short) delta)
                .putShort((short) second).putShort((short) (int) samples.get(first)).array());
            for (int i = 0; i < 2 * m; i += 2) {
                data.write(16 * chosen.nibbles[i] + chosen.nibbles[i + 1]);
            }
            delta = chosen.delta;
        }
        return data.toByteArray();
    }

    // ---- reading

    int read() {
        try {
            new Reading().all();
            return -1;
        } catch (Failed e) {
            return e.place;
        }
    }

    private final class Reading {
        int at = 0;
        boolean little;
        Set<String> there = new HashSet<>();
        int tag;
        int align;
        int newRate;
        int bits;
        int many = -1;
        int inBlock = 1;
        List<Integer> found = new ArrayList<>();

        long peek(int n) throws Failed {
            if (at + n > file.length) {
                throw new Failed(at);
            }
            long number = 0;
            for (int i = 0; i < n; i++) {
                int shift = little ? 8 * i : 8 * (n - 1 - i);
                number |= (file[at + i] & 255L) << shift;
            }
            return number;
        }

        long number(int n, long least, long most) throws Failed {
            long number = peek(n);
            if (number < least || number > most) {
                throw new Failed(at);
            }
            at += n;
            return number;
        }

        void exactly(int n, long due) throws Failed {
            number(n, due, due);
        }

        String peekId() throws Failed {
            peek(4);
            return new String(file, at, 4, StandardCharsets.ISO_8859_1);
        }

        void id(String... allowed) throws Failed {
            if (!Arrays.asList(allowed).contains(peekId())) {
                throw new Failed(at);
            }
            at += 4;
        }

        int chunkSize(long... allowed) throws Failed {
            long size = peek(4);
            boolean fits = at + 4 + size + size % 2 <= file.length;
            if (!fits || allowed.length > 0 && Arrays.stream(allowed).noneMatch(one -> one == size)) {
                throw new Failed(at);
            }
            at += 4;
            return (int) size;
        }

        void all() throws Failed {
            little = !peekId().equals("FORM");
            id("RIFF", "FORM");
            exactly(4, file.length - 8);
            id(little ? "WAVE" : "AIFF");
            while (!there.contains("end")) {
                oneChunk();
            }
            if (at != file.length) {
                throw new Failed(at);
            }
            samples = found;
            rate = newRate;
            form = !little ? 4 : tag == 17 ? 2 : tag == 2 ? 3 : align - 1;
        }

        void oneChunk() throws Failed {
            String name = peekId();
            boolean blocks = tag == 17 || tag == 2;
            boolean known = little ? name.equals("fmt ") || name.equals("data") || name.equals("fact") && blocks
                : name.equals("COMM") || name.equals("SSND");
            boolean early = name.equals("data") && (tag == 0 || blocks && many < 0) || name.equals("SSND") && many < 0;
            if (known && (early || !there.add(name))) {
                throw new Failed(at);
            }
            at += 4;
            int start = at;
            switch (known ? name : "") {
                case "fmt " -> fmt();
                case "fact" -> {
                    chunkSize(4);
                    many = (int) number(4, 0, 64);
                }
                case "data" -> data();
                case "COMM" -> comm();
                case "SSND" -> ssnd();
                default -> {
                    int passedOver = chunkSize();
                    at += passedOver;
                }
            }
            if ((at - start) % 2 != 0) {
                exactly(1, 0);
            }
        }

        void fmt() throws Failed {
            int size = chunkSize(16, 20, 50);
            tag = size == 16 ? 1 : size == 20 ? 17 : 2;
            exactly(2, tag);
            exactly(2, 1);
            newRate = (int) number(4, 1, 192000);
            int speedAt = at;
            at += 4;
            int head = tag == 1 ? 0 : tag == 17 ? 4 : 7;
            align = (int) number(2, head + 1, head + (tag == 1 ? 2 : 8));
            exactly(2, tag == 1 ? 8 * align : 4);
            if (tag != 1) {
                inBlock = 2 * (align - head) + (tag == 17 ? 1 : 2);
                exactly(2, tag == 17 ? 2 : 32);
                exactly(2, inBlock);
            }
            if (tag == 2) {
                exactly(2, 7);
                for (int[] pair : PAIR) {
                    exactly(2, pair[0] & 65535);
                    exactly(2, pair[1] & 65535);
                }
            }
            int end = at;
            at = speedAt;
            exactly(4, (long) newRate * align / inBlock);
            at = end;
        }

        void data() throws Failed {
            there.add("end");
            if (tag == 1) {
                long[] sizes = new long[65];
                Arrays.setAll(sizes, i -> (long) i * align);
                many = chunkSize(sizes) / align;
                for (int i = 0; i < many; i++) {
                    long number = number(align, 0, 65535);
                    found.add(align == 1 ? 256 * ((int) number - 128) : (short) number);
                }
                return;
            }
            chunkSize((long) Math.ceil((double) many / inBlock) * align);
            while (found.size() < many) {
                if (tag == 17) {
                    steppedBlock();
                } else {
                    predictedBlock();
                }
            }
        }

        void keep(int sample) {
            if (found.size() < many) {
                found.add(sample);
            }
        }

        void steppedBlock() throws Failed {
            int sample = (short) number(2, 0, 65535);
            int index = (int) number(1, 0, 88);
            exactly(1, 0);
            keep(sample);
            for (int i = 0; i < align - 4; i++) {
                int both = (int) number(1, 0, 255);
                for (int v : new int[] {both % 16, both / 16}) {
                    sample = stepSample(sample, index, v);
                    index = stepIndex(index, v);
                    keep(sample);
                }
            }
        }

        void predictedBlock() throws Failed {
            int pair = (int) number(1, 0, 6);
            int delta = (int) number(2, 1, 65535);
            int x = (short) number(2, 0, 65535);
            int y = (short) number(2, 0, 65535);
            keep(y);
            keep(x);
            for (int i = 0; i < align - 7; i++) {
                int both = (int) number(1, 0, 255);
                for (int v : new int[] {both / 16, both % 16}) {
                    int next = predictedSample(x, y, pair, delta, v);
                    y = x;
                    x = next;
                    delta = nextDelta(delta, v);
                    keep(next);
                }
            }
        }

        void comm() throws Failed {
            chunkSize(18);
            exactly(2, 1);
            int count = (int) number(4, 0, 64);
            bits = (int) number(2, 1, 16);
            int e = (int) number(2, 16383, 16400) - 16383;
            long mantissa = peek(8);
            newRate = 0;
            for (int one = 1 << e; one < 2 << e && one <= 192000; one++) {
                newRate = (long) one << 63 - e == mantissa ? one : newRate;
            }
            if (newRate == 0) {
                throw new Failed(at);
            }
            at += 8;
            many = count;
        }

        void ssnd() throws Failed {
            there.add("end");
            int bytes = bits > 8 ? 2 : 1;
            chunkSize(8 + (long) many * bytes);
            exactly(4, 0);
            exactly(4, 0);
            for (int i = 0; i < many; i++) {
                int number = (int) peek(bytes);
                if (number % (1 << 8 * bytes - bits) != 0) {
                    throw new Failed(at);
                }
                found.add(bytes == 1 ? (byte) number * 256 : (short) number);
                at += bytes;
            }
        }
    }

    // ---- walking

    List<int[]> walk() {
        List<int[]> chunks = new ArrayList<>();
        int at = 12;
        while (at + 8 <= file.length) {
            ByteOrder order = file[0] == 82 ? ByteOrder.LITTLE_ENDIAN : ByteOrder.BIG_ENDIAN;
            long size = ByteBuffer.wrap(file).order(order).getInt(at + 4) & 0xFFFFFFFFL;
            long end = at + 8 + (size + 1) / 2 * 2;
            if (end > file.length) {
                break;
            }
            chunks.add(new int[] {at, ByteBuffer.wrap(file).getInt(at), (int) size});
            at = (int) end;
        }
        return chunks;
    }
}
