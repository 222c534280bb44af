/** The example that README.md shows: a sound is written, its file walked, read, damaged and refused. */
public final class Example {
    public static void main(String[] args) {
        SoundShelf shelf = new SoundShelf();
        shelf.tune(44100);
        shelf.add(0);
        shelf.add(6276);
        shelf.add(-1287);
        System.out.println("bytes: " + shelf.write(4, 12));
        for (int k = 0; k < shelf.chunks(); k++) {
            System.out.println("chunk at " + shelf.chunk(k, 0) + ", size " + shelf.chunk(k, 2));
        }

        boolean whole = shelf.read() == SoundShelf.NONE;
        System.out.println("read: " + whole + ", form " + shelf.form() + ", sample 1: " + shelf.at(1));

        shelf.poke(27, 17);
        System.out.println("17 bits: refused at byte " + shelf.read());
    }
}
