/** Files that are read, and files that are refused at a place. */
final class Reading {
    private Reading() {
    }

    /** The sound that was there is longer and of another rate, so that nothing of it may be left. */
    static void reads(String label, String bytes, int form, String sound) {
        SoundShelf shelf = Make.sound(77, new int[64]);
        Make.append(shelf, bytes);
        Check.same(label + " read", shelf.read(), SoundShelf.NONE);
        Check.same(label, Check.state(shelf), sound + " | " + Make.hex(bytes) + " | " + form);
    }

    /** Refused by a new object, and by one that has a sound and has read a file before. */
    static void fails(String label, String bytes, int place) {
        failsOn(label, new SoundShelf(), bytes, place);
        SoundShelf used = Make.sound(44100, 5, -6);
        used.write(1, 0);
        used.read();
        used.add(7);
        used.tune(3);
        failsOn(label + " (used)", used, bytes, place);
    }

    private static void failsOn(String label, SoundShelf shelf, String bytes, int place) {
        shelf.cut(0);
        Make.append(shelf, bytes);
        String before = Check.state(shelf);
        Check.same(label, shelf.read(), place);
        Check.same(label + " changes nothing", Check.state(shelf), before);
    }
}
