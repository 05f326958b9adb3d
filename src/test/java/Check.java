import java.util.function.IntSupplier;

/** Counts the calls of a test whose answer is not the one that is due, and prints them. */
final class Check {
    private int calls = 0;
    private int wrong = 0;

    void due(String call, long got, long want) {
        calls++;
        if (got != want) {
            wrong++;
            System.out.println(call + " answered " + got + ", due is " + want);
        }
    }

    void holds(String what, boolean held) {
        due(what, held ? 1 : 0, 1);
    }

    int wrong() {
        return wrong;
    }

    int calls() {
        return calls;
    }

    /** A call that has to return an answer and to change nothing that can be seen. */
    void changesNothing(PickupYard x, String call, IntSupplier made, int want) {
        String before = seen(x);
        due(call, made.getAsInt(), want);
        holds(call + " changes nothing", before.equals(seen(x)));
    }

    /** A call that has to return an answer, and to be one more change. */
    void isChange(PickupYard x, String call, IntSupplier made, int want) {
        int before = x.count(14);
        due(call, made.getAsInt(), want);
        due(call + ", then count(14)", x.count(14), Math.min(6, before + 1));
    }

    /** All numbers that can be asked for. */
    static String seen(PickupYard x) {
        return seenButFor13And14(x) + " " + x.count(13) + " " + x.count(14) + " " + x.fault();
    }

    /** All numbers that undo brings back. */
    static String seenButFor13And14(PickupYard x) {
        StringBuilder all = new StringBuilder();
        for (int what = 0; what <= 20; what++) {
            all.append(what == 13 || what == 14 ? 0 : x.count(what)).append(' ');
        }
        for (int track = 0; track < x.count(1); track++) {
            for (int what = 0; what <= 4; what++) {
                all.append(x.ofTrack(track, what)).append(' ');
            }
            for (int place = 0; place <= x.ofTrack(track, 1); place++) {
                all.append(x.at(track, place)).append(' ');
            }
        }
        for (int place = 0; place <= x.count(3); place++) {
            all.append(x.at(PickupYard.NONE, place)).append(' ');
        }
        for (int wagon = 0; wagon < x.count(2); wagon++) {
            for (int what = 0; what <= 7; what++) {
                all.append(x.ofWagon(wagon, what)).append(' ');
            }
        }
        for (int train = 0; train < x.count(6); train++) {
            for (int what = 0; what <= 10; what++) {
                all.append(x.ofTrain(train, what)).append(' ');
            }
            all.append(x.straight(train)).append(' ').append(x.pulls(train)).append(' ');
            all.append(x.wouldLeave(train)).append(' ').append(x.moves(train)).append(' ');
        }
        all.append(x.roomFor()).append(' ').append(x.buried()).append(' ');
        for (int minutes = 1; minutes <= 500; minutes += 7) {
            all.append(x.freeFrom(minutes)).append(' ');
        }
        return all.toString();
    }

    /** The number that tells a list of wagons. */
    static long list(int... wagons) {
        long told = 0;
        for (int i = wagons.length - 1; i >= 0; i--) {
            told = told * 31 + wagons[i] + 1;
        }
        return told;
    }

    /** The number that tells up to 8 characters. */
    static long characters(String text) {
        long told = 0;
        for (int i = 0; i < text.length(); i++) {
            told = told << 8 | text.charAt(i);
        }
        return told;
    }

    /** Appends a text of any length to the pad. */
    static void write(PickupYard x, String text) {
        for (int i = 0; i < text.length(); i += 8) {
            x.put(characters(text.substring(i, Math.min(text.length(), i + 8))));
        }
    }

    /** A yard with so many tracks of one length. */
    static PickupYard yard(int tracks, int length) {
        PickupYard x = new PickupYard();
        for (int i = 0; i < tracks; i++) {
            x.track(length);
        }
        return x;
    }

    /** Adds wagons of these lengths to a track, one after the other. */
    static void wagons(PickupYard x, int track, int... lengths) {
        for (int length : lengths) {
            x.wagon(track, length);
        }
    }

    /** Ends the test: with exit code 1 if an answer was wrong, or if nothing was asked. */
    void end(String test) {
        System.out.println(test + ": " + calls + " answers, " + wrong + " not as due");
        if (wrong != 0 || calls == 0) {
            System.exit(1);
        }
    }
}
