import java.util.function.Supplier;
import java.util.function.ToIntFunction;

/** Tests of single sentences of the document: each call is made on a yard of its own, so that none hides another. */
final class Edge {
    static final int NO_SUCH = -1, BAD_VALUE = -2, BAD_TEXT = -3, TOO_MANY = -4, NOT_POSSIBLE = -5, NONE = -6;
    static final int MAX = Integer.MAX_VALUE, MIN = Integer.MIN_VALUE;

    /** A call with one number left open. */
    interface Call {
        int on(PickupYard x, int value);
    }

    private final Check c = new Check();
    private String sentence = "";
    private int sentences = 0;
    private int answersBefore = 0;

    /** Names the sentence that the answers from here on are about. */
    void says(String next) {
        sentenceEnds();
        sentence = next;
        sentences++;
    }

    private void sentenceEnds() {
        if (sentences > 0 && c.calls() == answersBefore) {
            due("the test of this sentence asks nothing", 0, 1);
        }
        answersBefore = c.calls();
    }

    void due(String call, long got, long want) {
        c.due("[" + sentence + "] " + call, got, want);
    }

    void holds(String what, boolean held) {
        due(what, held ? 1 : 0, 1);
    }

    /** A call that answers an error; what the yard answers behind it is what one answers of which it was not asked. */
    void refuses(String call, Supplier<PickupYard> yard, ToIntFunction<PickupYard> asked, int error) {
        PickupYard x = yard.get();
        due(call, asked.applyAsInt(x), error);
        same(call + " changes nothing", x, yard.get());
    }

    /** A question: it changes nothing, whatever it answers. */
    void asks(String call, Supplier<PickupYard> yard, ToIntFunction<PickupYard> asked, int answer) {
        refuses(call, yard, asked, answer);
    }

    /** All values from the least to the most are taken, the ones next to them and far from them are not. */
    void range(String call, Supplier<PickupYard> yard, Call asked, int least, int most, int error) {
        for (int value = least; value <= most; value++) {
            int answer = asked.on(yard.get(), value);
            holds(call + " with " + value + " answered " + answer, answer >= 0 || answer == NONE);
        }
        outside(call, yard, asked, least, most, error);
    }

    private void outside(String call, Supplier<PickupYard> yard, Call asked, int least, int most, int error) {
        int[] below = {least - 1, least - 2, least - 256, MIN + 1, MIN};
        int[] above = {most + 1, most + 2, most + 256, MAX - 1, MAX};
        for (int i = 0; i < below.length; i++) {
            int low = below[i];
            int high = above[i];
            refuses(call + " with " + low, yard, x -> asked.on(x, low), error);
            refuses(call + " with " + high, yard, x -> asked.on(x, high), error);
        }
    }

    /** As range, and what is seen behind a call that is taken is the value. */
    void rangeSeen(String call, Supplier<PickupYard> yard, Call asked, int[] range, int error, ToIntFunction<PickupYard> seen) {
        range(call, yard, asked, range[0], range[1], error);
        for (int value = range[0]; value <= range[1]; value++) {
            PickupYard x = yard.get();
            asked.on(x, value);
            due("behind " + call + " with " + value, seen.applyAsInt(x), value);
        }
    }

    /** Compares all of two yards, also the texts of the pads, the states to be undone and the slots; uses the yards up. */
    void same(String what, PickupYard x, PickupYard y) {
        sameSeen(what, x, y);
        due(what + ", carryOut()", x.carryOut(), y.carryOut());
        sameSeen(what + ", carryOut()", x, y);
        for (int i = 0; i < 8; i++) {
            due(what + ", undo()", x.undo(), y.undo());
            sameSeen(what + ", undo()", x, y);
        }
        for (int slot = 0; slot < 2; slot++) {
            due(what + ", restore()", x.restore(slot), y.restore(slot));
            sameSeen(what + ", restore()", x, y);
        }
    }

    void sameSeen(String what, PickupYard x, PickupYard y) {
        String seen = Check.seen(x);
        String want = Check.seen(y);
        int at = 0;
        while (at < seen.length() && at < want.length() && seen.charAt(at) == want.charAt(at)) {
            at++;
        }
        String there = seen.substring(at, Math.min(at + 20, seen.length()));
        holds(what + ", what is seen differs at " + at + ": " + there, seen.equals(want));
    }

    void row(String what, PickupYard x, int track, int... wagons) {
        for (int place = 0; place < wagons.length; place++) {
            due(what + ": at(" + track + ", " + place + ")", x.at(track, place), wagons[place]);
        }
        due(what + ": behind the last one", x.at(track, wagons.length), NONE);
    }

    void end(String test) {
        sentenceEnds();
        System.out.print(sentences + " sentences, ");
        c.end(test);
    }

    // ---- yards

    /** One in which a little of everything is: 6 states to be undone, both slots saved, a text without fault on the pad. */
    static PickupYard busy() {
        PickupYard x = new PickupYard();
        x.track(20);
        x.track(12);
        x.track(8);
        Check.wagons(x, 0, 2, 2, 3, 1, 1);
        Check.wagons(x, 1, 2, 1, 2);
        x.train(Check.list(4), 3);
        x.train(Check.list(3, 7), 22);
        x.train(Check.list(0, 6), 70);
        x.pull(0, 1);
        x.leave(0);
        x.save(0);
        x.pass(3);
        x.block(9, 2);
        x.block(40, 20);
        x.pull(0, 1);
        x.set(5, 25);
        x.save(1);
        x.pull(1, 1);
        Check.write(x, "pB1;w5");
        return x;
    }

    /** The busy one, once its first train has left. */
    static PickupYard withoutWagonsAtEngine() {
        PickupYard x = busy();
        x.leave(0);
        return x;
    }

    /** One in which nothing more may be: tracks, wagons, blocks, trains, the pad, the neck, and a track. */
    static PickupYard full() {
        PickupYard x = new PickupYard();
        x.set(0, 60);
        for (int i = 0; i < 8; i++) {
            x.track(i == 7 ? 4 : 60);
        }
        for (int i = 0; i < 15; i++) {
            x.wagon(0, 4);
        }
        x.save(0);
        for (int i = 0; i < 14; i++) {
            x.wagon(1, 1);
        }
        x.wagon(7, 4);
        x.save(1);
        for (int i = 0; i < 8; i++) {
            x.train(Check.list(14 - i), 100);
        }
        x.pull(0, 15);
        for (int i = 0; i < 10; i++) {
            x.block(100 + 9 * i, 5);
        }
        for (int i = 0; i < 19; i++) {
            x.put(Check.characters("qC1;"));
        }
        x.put(Check.characters("qC10"));
        return x;
    }
}
