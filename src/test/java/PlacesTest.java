/** Where reading fails, by the sentences of "TO READ". */
public final class PlacesTest {
    private static final String PLAIN = Make.plainFmt(8000, 1);
    private static final String STEPPED = Make.steppedFmt(8000, 1);
    private static final String PREDICTED = Make.predictedFmt(8000, 1);
    private static final String COMM = Make.comm(0, 8, 8000);
    private static final String NO_DATA = Make.data("");
    private static final String NO_SSND = Make.ssnd("");

    public static void main(String[] args) {
        firstOfTwoInBytes();
        firstOfTwoInSteps();
        firstOfTwoInPredictions();
        firstOfTwoInOther();
        headersOneByOne();
        bytesASecondLast();
        notWholeAtFirst();
        notWholeFurtherOn();
        cutWithoutItsNumber();
        idThatIsThere();
        idPassedOverAgain();
        beforeWhatHasToBeThere();
        oneOfEachInWave();
        oneOfEachInOther();
        riffOrFormFirst();
        waveOrAiff();
        factPassedOver();
        passedOver();
        longEnough();
        longEnoughForNamed();
        anyBytes();
        byteBehindChunk();
        fileEndsWhereChunkBegins();
        fileGoesOn();
        longestFile();
        Check.end();
    }

    /** Each row is a place and what stands there wrongly; of any two such, reading fails at the one named first. */
    private static void firstOfTwo(String label, String bytes, String[][] wrongs) {
        Check.same(label, Make.file(bytes).read(), SoundShelf.NONE);
        for (int i = 0; i < wrongs.length; i++) {
            int place = Integer.parseInt(wrongs[i][0]);
            for (int j = i; j < wrongs.length; j++) {
                SoundShelf shelf = Make.file(bytes);
                Make.over(shelf, Integer.parseInt(wrongs[j][0]), wrongs[j][1]);
                Make.over(shelf, place, wrongs[i][1]);
                Reading.fails(label + ", wrong at " + place + " and " + wrongs[j][0], Check.hexOf(shelf), place);
            }
        }
    }

    private static void firstOfTwoInBytes() {
        Check.sentence("ids and numbers are taken one after the other, in the order of the file; reading FAILS at the"
            + " first byte of the first one that is not as said");
        firstOfTwo("bytes", Make.wave(PLAIN + Make.data("80")), new String[][] {
            {"0", "'RIFX'"}, {"4", "27000000"}, {"8", "'WAVX'"}, {"12", "'data'"}, {"16", "11000000"}, {"20", "0200"},
            {"22", "0200"}, {"24", "00000000"}, {"32", "0300"}, {"34", "0900"}, {"28", "411f0000"}, {"36", "'fmt '"},
            {"40", "02010000"}, {"45", "01"},
        });
    }

    private static void firstOfTwoInSteps() {
        firstOfTwo("stepped", Make.wave(STEPPED + Make.fact(7) + Make.data("0000 00 00 00".repeat(3))), new String[][] {
            {"0", "'riff'"}, {"4", "45000000"}, {"8", "'AIFF'"}, {"12", "'data'"}, {"16", "15000000"}, {"20", "0100"},
            {"22", "0000"}, {"24", "01ee0200"}, {"32", "0d00"}, {"34", "0500"}, {"36", "0300"}, {"38", "0400"},
            {"28", "14340000"}, {"40", "'fmt '"}, {"44", "05000000"}, {"48", "41000000"}, {"52", "'fact'"},
            {"56", "0e000000"}, {"62", "59"}, {"63", "01"}, {"67", "ff"}, {"68", "80"}, {"72", "59"}, {"73", "01"},
            {"75", "01"},
        });
    }

    private static void firstOfTwoInPredictions() {
        firstOfTwo("predicted",
            Make.wave(Make.predictedFmt(8000, 2) + Make.fact(1) + Make.data("00 1000 0000 0000 0000")),
            new String[][] {
                {"0", "00"}, {"4", "00"}, {"8", "00"}, {"12", "'data'"}, {"16", "33000000"}, {"20", "1100"},
                {"22", "0101"}, {"24", "ffffffff"}, {"32", "1000"}, {"34", "0800"}, {"36", "0200"}, {"38", "0500"},
                {"40", "0800"}, {"42", "0101"}, {"44", "0100"}, {"46", "0000"}, {"48", "0001"}, {"50", "0100"},
                {"52", "ffff"}, {"54", "c100"}, {"56", "3f00"}, {"58", "f001"}, {"60", "0001"}, {"62", "cd01"},
                {"64", "d000"}, {"66", "8701"}, {"68", "e800"}, {"28", "00000000"}, {"70", "'fmt '"}, {"74", "00000000"},
                {"78", "00010000"}, {"82", "'fact'"}, {"86", "08000000"}, {"90", "07"}, {"91", "0000"}, {"99", "ff"},
            });
    }

    private static void firstOfTwoInOther() {
        firstOfTwo("other", Make.other(Make.comm(3, 7, 8000) + Make.ssnd("02 fe 80")), new String[][] {
            {"0", "'FORN'"}, {"4", "00000030"}, {"8", "'AIFC'"}, {"12", "'SSND'"}, {"16", "00000011"}, {"20", "0002"},
            {"22", "00000041"}, {"26", "0011"}, {"28", "3ffe"}, {"30", "7a"}, {"38", "'COMM'"}, {"42", "0000000c"},
            {"46", "00000001"}, {"50", "80000000"}, {"54", "03"}, {"55", "ff"}, {"56", "01"}, {"57", "01"},
        });
    }

    private static void headersOneByOne() {
        Check.sentence("Of blocks, numbers in headers are looked at one by one");
        String stepped = STEPPED + Make.fact(4);
        Reading.fails("index and 0", Make.wave(stepped + Make.data("0000 59 01 00" + "0000 59 01 00")), 62);
        Reading.fails("0, and the next index", Make.wave(stepped + Make.data("0000 58 01 00" + "0000 59 01 00")), 63);
        Reading.fails("the next index and 0", Make.wave(stepped + Make.data("0000 58 00 00" + "0000 59 01 00")), 67);
        Reading.fails("the next 0", Make.wave(stepped + Make.data("0000 58 00 00" + "0000 58 01 00")), 68);
        Reading.reads("none", Make.wave(stepped + Make.data("0000 00 00 00" + "0000 58 00 00")), 2, "8000: 0 0 0 0");
        String predicted = PREDICTED + Make.fact(5);
        String wrong = "07 0000 0000 0000 00";
        Reading.fails("pair and delta", Make.wave(predicted + Make.data(wrong + wrong)), 90);
        Reading.fails("delta, and the next pair", Make.wave(predicted + Make.data("06 0000 0000 0000 00" + wrong)), 91);
        Reading.fails("the next pair and delta", Make.wave(predicted + Make.data("06 0100 0000 0000 00" + wrong)), 98);
        Reading.fails("the next delta", Make.wave(predicted
            + Make.data("06 0100 0000 0000 00" + "06 0000 0000 0000 00")), 99);
        Reading.reads("none", Make.wave(predicted + Make.data("06 0100 0000 0000 00".repeat(2))), 3,
            "8000: 0 0 0 0 0");
    }

    private static void bytesASecondLast() {
        Check.sentence("Bytes a second are looked at last in their chunk.");
        String wrong = PREDICTED.replace("803e0000", "813e0000");
        Reading.fails("nothing else is wrong", Make.wave(wrong + Make.fact(0) + NO_DATA), 28);
        Reading.fails("the last pair too", Make.wave(wrong.replace("18ff", "19ff") + Make.fact(0) + NO_DATA), 68);
        Reading.fails("the next id too", Make.wave(wrong + "'fmt '"), 28);
        Reading.fails("nothing follows", Make.wave(wrong), 28);
        Reading.fails("the rate too", Make.wave(wrong.replace("401f0000", "00000000") + Make.fact(0) + NO_DATA), 24);
    }

    private static String[] wholeFiles() {
        return new String[] {
            Make.wave(PLAIN + Make.data("80")),
            Make.wave("'LIST' 03000000 01020300" + Make.plainFmt(8000, 2) + Make.data("0102 0304")),
            Make.wave(STEPPED + Make.fact(4) + Make.data("0000 00 00 00".repeat(2))),
            Make.wave(PREDICTED + Make.fact(1) + Make.data("00 1000 0000 0000 00")),
            Make.other(Make.comm(1, 8, 8000) + "'NAME' 00000001 0100" + Make.ssnd("02")),
        };
    }

    private static void notWholeAtFirst() {
        Check.sentence("reading FAILS at the first byte of the first one that is not as said, or not whole");
        for (String head : new String[] {"'RIFF'", "'FORM'"}) {
            for (int n = 0; n < 4; n++) {
                Reading.fails(n + " bytes", Make.hex(head).substring(0, 2 * n), 0);
                Reading.fails("an id and " + n + " bytes", head + "00".repeat(n), 4);
            }
            Reading.fails("an id and a number", head + "00000000", 8);
            for (int n = 1; n < 4; n++) {
                String number = head.equals("'RIFF'") ? Make.little(n, 4) : Make.big(n, 4);
                String id = Make.hex(head.equals("'RIFF'") ? "'WAVE'" : "'AIFF'");
                Reading.fails("and " + n + " bytes of an id", head + number + id.substring(0, 2 * n), 8);
            }
        }
    }

    /** The walk tells where the chunks begin; it is tested by itself. */
    private static void notWholeFurtherOn() {
        Check.sentence("the file is long enough for it and its byte 0");
        for (String file : wholeFiles()) {
            SoundShelf whole = Make.file(file);
            Check.same("whole", whole.read(), SoundShelf.NONE);
            for (int k = 0; k < whole.chunks(); k++) {
                int place = whole.chunk(k, 0);
                int end = place + 8 + whole.chunk(k, 2) + whole.chunk(k, 2) % 2;
                for (int n = place; n < end; n++) {
                    Reading.fails("cut to " + n, Make.shortened(file, n), n < place + 4 ? place : place + 4);
                }
            }
        }
    }

    private static void cutWithoutItsNumber() {
        Check.sentence("The number behind RIFF or FORM is 8 less than the file has bytes.");
        for (String file : wholeFiles()) {
            SoundShelf shelf = Make.file(file);
            shelf.type(0, 1);
            Check.same("a byte more", shelf.read(), 4);
            shelf.cut(shelf.size() - 1);
            Check.same("as it was", shelf.read(), SoundShelf.NONE);
            for (int n = shelf.size() - 1; n >= 0; n--) {
                shelf.cut(n);
                Check.same("cut to " + n, shelf.read(), n < 4 ? 0 : 4);
            }
        }
    }

    private static void idThatIsThere() {
        Check.sentence("An id may not be that of a chunk that is there already");
        Reading.fails("fmt", Make.wave(PLAIN + PLAIN + NO_DATA), 36);
        Reading.fails("fmt of another tag", Make.wave(PLAIN + STEPPED + Make.fact(0) + NO_DATA), 36);
        Reading.fails("fmt behind another chunk", Make.wave(PLAIN + "'LIST' 00000000" + PLAIN + NO_DATA), 44);
        Reading.fails("fmt, and nothing more", Make.wave(PLAIN + "'fmt '"), 36);
        Reading.fails("fmt behind fact", Make.wave(STEPPED + Make.fact(0) + STEPPED + NO_DATA), 52);
        Reading.fails("fact", Make.wave(STEPPED + Make.fact(0) + Make.fact(0) + NO_DATA), 52);
        Reading.fails("fact, predicted", Make.wave(PREDICTED + Make.fact(0) + Make.fact(0) + NO_DATA), 82);
        Reading.fails("COMM", Make.other(COMM + COMM + NO_SSND), 38);
        Reading.fails("data", Make.wave(PLAIN + NO_DATA + NO_DATA), 44);
        Reading.fails("SSND", Make.other(COMM + NO_SSND + NO_SSND), 54);
        Reading.reads("each once", Make.wave(STEPPED + Make.fact(0) + NO_DATA), 2, "8000:");
        Reading.reads("each once, other", Make.other(COMM + NO_SSND), 4, "8000:");
    }

    private static void idPassedOverAgain() {
        Check.sentence("(all others are passed over)");
        String twice = "'LIST' 00000000 'LIST' 02000000 ffff";
        Reading.reads("before fmt", Make.wave(twice + PLAIN + NO_DATA), 0, "8000:");
        Reading.reads("behind fmt", Make.wave(PLAIN + twice + NO_DATA), 0, "8000:");
        Reading.reads("around fact", Make.wave(STEPPED + twice + Make.fact(0) + twice + NO_DATA), 2, "8000:");
        Reading.reads("in the other file", Make.other("'LIST' 00000000" + COMM + "'LIST' 00000000" + NO_SSND), 4,
            "8000:");
    }

    private static void beforeWhatHasToBeThere() {
        Check.sentence("nor \"data\" or \"SSND\" before what has to be there");
        Reading.fails("data before fmt", Make.wave(NO_DATA + PLAIN), 12);
        Reading.fails("data before fmt, and nothing more", Make.wave("'data'"), 12);
        Reading.fails("data before fmt, behind another chunk", Make.wave("'LIST' 00000000" + NO_DATA + PLAIN), 20);
        Reading.fails("data before fact, stepped", Make.wave(STEPPED + NO_DATA), 40);
        Reading.fails("data before fact, predicted", Make.wave(PREDICTED + NO_DATA), 70);
        Reading.fails("fact before fmt is none behind it", Make.wave(Make.fact(0) + STEPPED + NO_DATA), 52);
        Reading.fails("SSND before COMM", Make.other(NO_SSND + COMM), 12);
        Reading.fails("SSND before COMM, and nothing more", Make.other("'SSND'"), 12);
        Reading.reads("data behind fmt alone, plain", Make.wave(PLAIN + NO_DATA), 0, "8000:");
        Reading.reads("data behind fact", Make.wave(PREDICTED + Make.fact(0) + NO_DATA), 3, "8000:");
        Reading.reads("SSND behind COMM", Make.other(COMM + NO_SSND), 4, "8000:");
    }

    private static void oneOfEachInWave() {
        Check.sentence("There is one \"fmt \", for 17 and 2 one \"fact\" behind it, and then one \"data\", with which the"
            + " file ends (but for its byte 0).");
        Reading.fails("no fmt", Make.wave(NO_DATA), 12);
        Reading.reads("one fmt, plain", Make.wave(PLAIN + NO_DATA), 0, "8000:");
        Reading.fails("two fmt", Make.wave(PLAIN + PLAIN + NO_DATA), 36);
        Reading.fails("no fact", Make.wave(PREDICTED + NO_DATA), 70);
        Reading.reads("one fact", Make.wave(PREDICTED + Make.fact(0) + NO_DATA), 3, "8000:");
        Reading.fails("two facts", Make.wave(PREDICTED + Make.fact(0) + Make.fact(0) + NO_DATA), 82);
        Reading.fails("no data", Make.wave(PREDICTED + Make.fact(0)), 82);
        Reading.fails("two data", Make.wave(PREDICTED + Make.fact(0) + NO_DATA + NO_DATA), 90);
        Reading.reads("its byte 0", Make.wave(PLAIN + "'data' 01000000 80 00"), 0, "8000: 0");
        Reading.fails("a byte behind that", Make.wave(PLAIN + "'data' 01000000 80 00 00"), 46);
    }

    private static void oneOfEachInOther() {
        Check.sentence("One COMM, and then one SSND, with which the file ends (but for its byte 0).");
        Reading.fails("no COMM", Make.other(NO_SSND), 12);
        Reading.reads("one COMM", Make.other(COMM + NO_SSND), 4, "8000:");
        Reading.fails("two COMM", Make.other(COMM + COMM + NO_SSND), 38);
        Reading.fails("no SSND", Make.other(COMM), 38);
        Reading.fails("two SSND", Make.other(COMM + NO_SSND + NO_SSND), 54);
        Reading.fails("COMM behind SSND", Make.other(COMM + NO_SSND + COMM), 54);
        String odd = Make.comm(1, 8, 8000) + "'SSND' 00000009 0000000000000000 01 00";
        Reading.reads("its byte 0", Make.other(odd), 4, "8000: 256");
        Reading.fails("a byte behind that", Make.other(odd + "00"), 56);
    }

    private static void riffOrFormFirst() {
        Check.sentence("that of RIFF or FORM comes first");
        String rest = Make.hex(Make.wave(PLAIN + NO_DATA)).substring(8);
        String otherRest = Make.hex(Make.other(COMM + NO_SSND)).substring(8);
        Reading.reads("RIFF", "'RIFF'" + rest, 0, "8000:");
        Reading.reads("FORM", "'FORM'" + otherRest, 4, "8000:");
        for (String id : new String[] {"'riff'", "'RIFX'", "'RIF '", "'FIRR'", "'form'", "'FORN'", "'WAVE'", "'AIFF'"}) {
            Reading.fails(id, id + rest, 0);
            Reading.fails(id, id + otherRest, 0);
        }
        // The first id tells the order of the number behind it.
        Reading.fails("FORM for a wave file", "'FORM'" + rest, 4);
        Reading.fails("RIFF for the other", "'RIFF'" + otherRest, 4);
        Reading.reads("RIFF and FORM as chunks", Make.wave("'RIFF' 00000000 'FORM' 00000000" + PLAIN + NO_DATA), 0,
            "8000:");
    }

    private static void waveOrAiff() {
        Check.sentence("the id WAVE; then CHUNKS");
        for (String id : new String[] {"'WAVF'", "'wave'", "'AIFF'", "'RIFF'", "'fmt '"}) {
            Reading.fails(id, Make.wave(PLAIN + NO_DATA).replace("'WAVE'", id), 8);
        }
        for (String id : new String[] {"'AIFC'", "'aiff'", "'WAVE'", "'FORM'", "'COMM'"}) {
            Reading.fails(id, Make.other(COMM + NO_SSND).replace("'AIFF'", id), 8);
        }
    }

    private static void factPassedOver() {
        Check.sentence("\"fact\" (behind \"fmt \" of the tags 17 and 2; otherwise it is passed over)");
        String odd = "'fact' 03000000 ffffff00";
        Reading.reads("in a plain file", Make.wave(PLAIN + odd + NO_DATA), 0, "8000:");
        Reading.reads("twice in a plain file", Make.wave(PLAIN + odd + Make.fact(65) + NO_DATA), 0, "8000:");
        Reading.reads("before fmt of a plain file", Make.wave(odd + PLAIN + NO_DATA), 0, "8000:");
        Reading.reads("before fmt of steps", Make.wave(odd + STEPPED + Make.fact(0) + NO_DATA), 2, "8000:");
        Reading.reads("before fmt of predictions", Make.wave(odd + odd + PREDICTED + Make.fact(0) + NO_DATA), 3, "8000:");
        Reading.reads("in the other file", Make.other("'fact' 00000001 0900" + COMM + NO_SSND), 4, "8000:");
        Reading.fails("behind fmt of steps", Make.wave(STEPPED + odd + Make.fact(0) + NO_DATA), 44);
        Reading.fails("behind fmt of predictions", Make.wave(PREDICTED + odd + Make.fact(0) + NO_DATA), 74);
    }

    private static void passedOver() {
        Check.sentence("WAVE CHUNKS (all others are passed over).");
        for (String id : new String[] {"'LIST'", "'FMT '", "'fmt'00", "'Data'", "'COMM'", "'SSND'", "00000000"}) {
            String chunk = id + "02000000 ffff";
            Reading.reads(id, Make.wave(chunk + PLAIN + chunk + Make.data("81")), 0, "8000: 256");
        }
        Check.sentence("OTHER CHUNKS (all others are passed over).");
        for (String id : new String[] {"'NAME'", "'comm'", "'SSNE'", "'fmt '", "'data'", "'fact'", "ffffffff"}) {
            String chunk = id + "00000002 ffff";
            Reading.reads(id, Make.other(chunk + Make.comm(1, 16, 5) + chunk + Make.ssnd("0007")), 4, "5: 7");
        }
        Reading.reads("43 of them", Make.wave("'LIST' 00000000".repeat(43) + PLAIN + NO_DATA), 0, "8000:");
    }

    private static void longEnough() {
        Check.sentence("and the file is long enough for it and its byte 0");
        for (int size = 0; size <= 8; size++) {
            int bytes = size + size % 2;
            String wave = "'LIST'" + Make.little(size, 4);
            String other = "'LIST'" + Make.big(size, 4);
            // The chunk itself is right, and the next one should begin where the file ends.
            Reading.fails("just long enough, " + size, Make.wave(wave + "00".repeat(bytes)), 20 + bytes);
            Reading.fails("just long enough, other, " + size, Make.other(other + "00".repeat(bytes)), 20 + bytes);
            if (bytes > 0) {
                Reading.fails("a byte less, " + size, Make.wave(wave + "00".repeat(bytes - 1)), 16);
                Reading.fails("a byte less, other, " + size, Make.other(other + "00".repeat(bytes - 1)), 16);
            }
        }
        for (String size : new String[] {"ffffffff", "feffffff", "00000080", "ffffff7f", "ecffffff", "f8ffffff"}) {
            Reading.fails("size " + size, Make.wave("'LIST'" + size + PLAIN + NO_DATA), 16);
        }
        for (int n = 0; n < 4; n++) {
            Reading.fails("a size of " + n + " bytes", Make.wave("'LIST'" + "00".repeat(n)), 16);
        }
    }

    private static void longEnoughForNamed() {
        Reading.fails("data without its byte 0", Make.wave(PLAIN + "'data' 01000000 80"), 40);
        Reading.reads("data with it", Make.wave(PLAIN + "'data' 01000000 80 00"), 0, "8000: 0");
        Reading.fails("data a byte short", Make.wave(PLAIN + "'data' 02000000 80"), 40);
        String blocks = STEPPED + Make.fact(1) + "'data' 05000000 0000 00 00 00";
        Reading.fails("blocks without the byte 0", Make.wave(blocks), 56);
        Reading.reads("blocks with it", Make.wave(blocks + "00"), 2, "8000: 0");
        String ssnd = Make.comm(1, 8, 8000) + "'SSND' 00000009 0000000000000000 00";
        Reading.fails("SSND without its byte 0", Make.other(ssnd), 42);
        Reading.reads("SSND with it", Make.other(ssnd + "00"), 4, "8000: 0");
        Reading.fails("fact a byte short", Make.wave(STEPPED + "'fact' 04000000 000000"), 44);
        Reading.fails("fmt of 16 a byte short", Make.shortened(Make.wave(PLAIN), 35), 16);
        Reading.fails("fmt of 20 a byte short", Make.shortened(Make.wave(STEPPED), 39), 16);
        Reading.fails("fmt of 50 a byte short", Make.shortened(Make.wave(PREDICTED), 69), 16);
        Reading.fails("COMM a byte short", Make.shortened(Make.other(COMM), 37), 16);
    }

    private static void anyBytes() {
        Check.sentence("plain samples, bytes of nibbles and bytes of chunks that are passed over may be any");
        SoundShelf plain = Make.file(Make.wave("'LIST' 01000000 0000" + PLAIN + Make.data("0000")));
        SoundShelf stepped = Make.file(Make.wave(STEPPED + Make.fact(3) + Make.data("0000 00 00 00")));
        SoundShelf predicted = Make.file(Make.wave(PREDICTED + Make.fact(4) + Make.data("00 1000 0000 0000 00")));
        for (int b = 0; b < 256; b++) {
            plain.poke(20, b);
            plain.poke(54, b);
            plain.poke(55, 255 - b);
            Check.same("samples and a byte passed over " + b, plain.read(), SoundShelf.NONE);
            stepped.poke(60, b);
            stepped.poke(61, 255 - b);
            stepped.poke(64, b);
            Check.same("stepped " + b, stepped.read(), SoundShelf.NONE);
            for (int k = 93; k < 98; k++) {
                predicted.poke(k, b);
            }
            Check.same("predicted " + b, predicted.read(), SoundShelf.NONE);
        }
    }

    private static void byteBehindChunk() {
        Check.sentence("The byte 0 behind a chunk of odd size, also behind one that is passed over, is a number of one"
            + " byte.");
        SoundShelf plain = Make.file(Make.wave("'LIST' 01000000 0100" + PLAIN + "'LIST' 03000000 01020300"
            + Make.data("80")));
        SoundShelf stepped = Make.file(Make.wave(STEPPED + Make.fact(1) + Make.data("0000 00 00 00")));
        SoundShelf predicted = Make.file(Make.wave(Make.predictedFmt(8000, 2) + Make.fact(1)
            + Make.data("00 1000 0000 0000 0000")));
        SoundShelf other = Make.file(Make.other("'NAME' 00000001 0100" + Make.comm(1, 8, 8000) + Make.ssnd("01")));
        everyByteBehind(plain, 21);
        everyByteBehind(plain, 57);
        everyByteBehind(plain, 67);
        everyByteBehind(stepped, 65);
        everyByteBehind(predicted, 99);
        everyByteBehind(other, 21);
        everyByteBehind(other, 65);
    }

    private static void everyByteBehind(SoundShelf shelf, int place) {
        for (int b = 255; b >= 0; b--) {
            shelf.poke(place, b);
            Check.same("byte " + b + " at " + place, shelf.read(), b == 0 ? SoundShelf.NONE : place);
        }
    }

    private static void fileEndsWhereChunkBegins() {
        Check.sentence("Where a chunk should begin, but the file ends, or where it should end and does not, it fails"
            + " there.");
        Reading.fails("no chunk", Make.wave(""), 12);
        Reading.fails("no chunk, other", Make.other(""), 12);
        Reading.fails("fmt alone", Make.wave(PLAIN), 36);
        Reading.fails("fmt of steps alone", Make.wave(STEPPED), 40);
        Reading.fails("fmt and fact alone", Make.wave(STEPPED + Make.fact(0)), 52);
        Reading.fails("fmt and fact alone, predicted", Make.wave(PREDICTED + Make.fact(0)), 82);
        Reading.fails("COMM alone", Make.other(COMM), 38);
        Reading.fails("one passed over", Make.wave("'LIST' 03000000 00000000"), 24);
        for (int n = 1; n < 4; n++) {
            String some = Make.hex("'data'").substring(0, 2 * n);
            Reading.fails(n + " bytes of an id", Make.wave(PLAIN + some), 36);
            Reading.fails(n + " bytes of an id, other", Make.other(COMM + some), 38);
        }
    }

    private static void fileGoesOn() {
        for (String more : new String[] {"00", "0000", "'LIST'", "'LIST' 00000000", "'fmt '", NO_DATA, NO_SSND}) {
            Reading.fails("bytes", Make.wave(PLAIN + Make.data("8081") + more), 46);
            Reading.fails("bytes and the byte 0", Make.wave(PLAIN + Make.data("80") + more), 46);
            Reading.fails("none", Make.wave(PLAIN + NO_DATA + more), 44);
            Reading.fails("stepped", Make.wave(STEPPED + Make.fact(1) + Make.data("0000 00 00 00") + more), 66);
            Reading.fails("predicted",
                Make.wave(PREDICTED + Make.fact(1) + Make.data("00 1000 0000 0000 00") + more), 98);
            Reading.fails("other", Make.other(Make.comm(1, 8, 8000) + Make.ssnd("01") + more), 56);
            Reading.fails("other, even", Make.other(Make.comm(1, 16, 8000) + Make.ssnd("0001") + more), 56);
        }
        // The byte behind is looked at before the end.
        Reading.fails("a wrong byte behind, and more", Make.wave(PLAIN + "'data' 01000000 80 01 00"), 45);
    }

    private static void longestFile() {
        Check.sentence("THE FILE has at most 400 bytes");
        String wave = Make.wave("'LIST' 1c010000" + "ff".repeat(284) + PLAIN + Make.data("81".repeat(64)));
        Check.same("wave", Make.length(wave), 400);
        Reading.reads("wave", wave, 0, "8000:" + " 256".repeat(64));
        String name = "'NAME' 000000d2" + "ff".repeat(210);
        String other = Make.other(Make.comm(64, 9, 192000) + name + Make.ssnd("0080".repeat(64)));
        Check.same("other", Make.length(other), 400);
        Reading.reads("other", other, 4, "192000:" + " 128".repeat(64));
        Reading.fails("chunks to the end", Make.wave("'LIST' 00000000".repeat(48)), 396);
        Reading.fails("a chunk to the end", Make.wave("'LIST' 7c010000" + "00".repeat(380)), 400);
        Reading.fails("a chunk beyond the end", Make.wave("'LIST' 7d010000" + "00".repeat(380)), 16);
    }
}
