import java.util.List;
import java.util.function.Supplier;
import java.util.function.ToIntFunction;

/** What "What it is", "The public face" and the conventions name as a boundary, sentence by sentence. */
public final class EdgesOfTermsTest {
    private static final int NO_SUCH = -1, BAD_VALUE = -2, BAD_TEXT = -3, TOO_MANY = -4, NOT_POSSIBLE = -5, NONE = -6;
    private static final Edge e = new Edge();

    /** A call, its answer, and the yard in which it gives that answer. */
    private record Row(String call, Supplier<PickupYard> yard, ToIntFunction<PickupYard> asked, int answer) {
    }

    public static void main(String[] args) {
        upTo512Calls();
        errorsChangeNothing();
        orderOfErrors();
        noneOnlyWithoutError();
        questionsChangeNothing();
        numberedFromZero();
        minuteIsZero();
        settingsAndTheirRanges();
        e.end("EdgesOfTermsTest");
    }

    private static void upTo512Calls() {
        e.says("An object is used for at most 512 calls after it has been made");
        PickupYard x = new PickupYard();
        for (int call = 1; call <= 512; call++) {
            e.due("pass(999), call " + call, x.pass(999), 999 * call);
        }
        PickupYard y = new PickupYard();
        y.track(4);
        y.wagon(0, 4);
        for (int call = 3; call <= 511; call += 2) {
            e.due("pull, call " + call, y.pull(0, 1), 1);
            e.due("push, call " + (call + 1), y.push(0, 1), 0);
        }
        PickupYard z = new PickupYard();
        for (int call = 1; call <= 511; call++) {
            z.carryOut();
            z.undo();
            z.save(1);
        }
        e.due("restore(1), the last call", z.restore(1), 0);
        latestMinutes();
    }

    /** 502 calls let as much time pass as they can; what is counted from the present minute is counted from there. */
    private static void latestMinutes() {
        PickupYard x = Check.yard(1, 4);
        x.wagon(0, 1);
        x.train(1, 5000);
        x.set(5, 1000);
        for (int i = 0; i < 500; i++) {
            x.pass(999);
        }
        int minute = 500 * 999;
        e.due("block(minute + 2000, 500)", x.block(minute + 2000, 500), 1);
        e.due("pull(0, 1)", x.pull(0, 1), 1);
        e.due("leave(0)", x.leave(0), minute + 5 - 5000);
        e.due("count(12)", x.count(12), (minute + 5 - 5000) * 1000);
        e.due("freeFrom(500)", x.freeFrom(500), minute + 5);
        e.due("count(0)", x.count(0), minute + 5);
        e.due("ofWagon(0, 4)", x.ofWagon(0, 4), minute + 5);
    }

    // ---- conventions

    private static List<Row> errors() {
        Supplier<PickupYard> busy = Edge::busy;
        Supplier<PickupYard> full = Edge::full;
        Supplier<PickupYard> fresh = PickupYard::new;
        Supplier<PickupYard> faulty = () -> {
            PickupYard x = Edge.busy();
            x.put(';');
            return x;
        };
        return List.of(
            new Row("set(6, 9)", busy, x -> x.set(6, 9), BAD_VALUE),
            new Row("set(0, 61)", busy, x -> x.set(0, 61), BAD_VALUE),
            new Row("track(3)", busy, x -> x.track(3), BAD_VALUE),
            new Row("track(4), full", full, x -> x.track(4), TOO_MANY),
            new Row("wagon(3, 1)", busy, x -> x.wagon(3, 1), NO_SUCH),
            new Row("wagon(0, 5)", busy, x -> x.wagon(0, 5), BAD_VALUE),
            new Row("wagon(2, 1), full", full, x -> x.wagon(2, 1), TOO_MANY),
            new Row("wagon that does not fit", () -> withFullTrack(), x -> x.wagon(2, 1), NOT_POSSIBLE),
            new Row("block(22, 1)", busy, x -> x.block(22, 1), BAD_VALUE),
            new Row("block(30, 0)", busy, x -> x.block(30, 0), BAD_VALUE),
            new Row("block(100, 1), full", full, x -> x.block(100, 1), TOO_MANY),
            new Row("pull(3, 1)", busy, x -> x.pull(3, 1), NO_SUCH),
            new Row("pull(0, 0)", busy, x -> x.pull(0, 0), BAD_VALUE),
            new Row("pull(0, 4) of 3", busy, x -> x.pull(0, 4), NOT_POSSIBLE),
            new Row("pull(1, 1) into a full neck", full, x -> x.pull(1, 1), NOT_POSSIBLE),
            new Row("push(3, 1)", busy, x -> x.push(3, 1), NO_SUCH),
            new Row("push(0, 0)", busy, x -> x.push(0, 0), BAD_VALUE),
            new Row("push(0, 3) of 2", busy, x -> x.push(0, 3), NOT_POSSIBLE),
            new Row("push(7, 1) into a full track", full, x -> x.push(7, 1), NOT_POSSIBLE),
            new Row("round() without wagons", Edge::withoutWagonsAtEngine, x -> x.round(), NOT_POSSIBLE),
            new Row("round() too long", full, x -> x.round(), NOT_POSSIBLE),
            new Row("pass(0)", busy, x -> x.pass(0), BAD_VALUE),
            new Row("train(0, 30)", busy, x -> x.train(0, 30), BAD_VALUE),
            new Row("train(2, 22)", busy, x -> x.train(2, 22), BAD_VALUE),
            new Row("train(16, 100), full", full, x -> x.train(16, 100), TOO_MANY),
            new Row("train(4, 100) of another's wagon", busy, x -> x.train(4, 100), NOT_POSSIBLE),
            new Row("strike(2)", busy, x -> x.strike(2), NO_SUCH),
            new Row("leave(2)", busy, x -> x.leave(2), NO_SUCH),
            new Row("leave(1)", busy, x -> x.leave(1), NOT_POSSIBLE),
            new Row("ofTrack(3, 0)", busy, x -> x.ofTrack(3, 0), NO_SUCH),
            new Row("ofTrack(0, 5)", busy, x -> x.ofTrack(0, 5), BAD_VALUE),
            new Row("at(3, 0)", busy, x -> x.at(3, 0), NO_SUCH),
            new Row("ofWagon(8, 0)", busy, x -> x.ofWagon(8, 0), NO_SUCH),
            new Row("ofWagon(0, 8)", busy, x -> x.ofWagon(0, 8), BAD_VALUE),
            new Row("ofTrain(2, 0)", busy, x -> x.ofTrain(2, 0), NO_SUCH),
            new Row("ofTrain(0, 11)", busy, x -> x.ofTrain(0, 11), BAD_VALUE),
            new Row("count(21)", busy, x -> x.count(21), BAD_VALUE),
            new Row("freeFrom(501)", busy, x -> x.freeFrom(501), BAD_VALUE),
            new Row("straight(2)", busy, x -> x.straight(2), NO_SUCH),
            new Row("pulls(2)", busy, x -> x.pulls(2), NO_SUCH),
            new Row("wouldLeave(2)", busy, x -> x.wouldLeave(2), NO_SUCH),
            new Row("moves(2)", busy, x -> x.moves(2), NO_SUCH),
            new Row("put(0)", busy, x -> x.put(0), BAD_VALUE),
            new Row("put('r'), full", full, x -> x.put('r'), TOO_MANY),
            new Row("carryOut() of a fault", faulty, x -> x.carryOut(), BAD_TEXT),
            new Row("undo() of none", fresh, x -> x.undo(), NOT_POSSIBLE),
            new Row("save(2)", busy, x -> x.save(2), BAD_VALUE),
            new Row("restore(2)", busy, x -> x.restore(2), BAD_VALUE),
            new Row("restore(0) of nothing", fresh, x -> x.restore(0), NOT_POSSIBLE));
    }

    private static PickupYard withFullTrack() {
        PickupYard x = Edge.busy();
        Check.wagons(x, 2, 4, 4);
        return x;
    }

    private static void errorsChangeNothing() {
        e.says("A call that returns an error changes nothing");
        for (Row row : errors()) {
            e.refuses(row.call(), row.yard(), row.asked(), row.answer());
        }
    }

    private static void orderOfErrors() {
        e.says("it names its errors in the order in which they are checked, and the first one that applies is returned");
        Supplier<PickupYard> busy = Edge::busy;
        Supplier<PickupYard> full = Edge::full;
        e.refuses("track: too long, and 8 are there", full, x -> x.track(61), BAD_VALUE);
        e.refuses("wagon: no track, too long, and 30 were there", full, x -> x.wagon(8, 5), NO_SUCH);
        e.refuses("wagon: no track, 30 were there", full, x -> x.wagon(-1, 1), NO_SUCH);
        e.refuses("wagon: no track, too short", busy, x -> x.wagon(3, 0), NO_SUCH);
        e.refuses("wagon: too long, 30 were there, does not fit", full, x -> x.wagon(7, 5), BAD_VALUE);
        e.refuses("wagon: too long, does not fit", () -> withFullTrack(), x -> x.wagon(2, 5), BAD_VALUE);
        e.refuses("wagon: 30 were there, does not fit", full, x -> x.wagon(7, 1), TOO_MANY);
        e.refuses("block: too early, 10 are there", full, x -> x.block(-1, 1), BAD_VALUE);
        e.refuses("block: too long, 10 are there", full, x -> x.block(100, 501), BAD_VALUE);
        e.refuses("pull: no track, none", busy, x -> x.pull(3, 0), NO_SUCH);
        e.refuses("pull: no track, too many", busy, x -> x.pull(-1, 31), NO_SUCH);
        e.refuses("pull: too many, not so many there", busy, x -> x.pull(0, 31), BAD_VALUE);
        e.refuses("pull: none, of an empty track", busy, x -> x.pull(2, 0), BAD_VALUE);
        e.refuses("push: no track, none", busy, x -> x.push(3, 0), NO_SUCH);
        e.refuses("push: no track, not so many there", busy, x -> x.push(-1, 3), NO_SUCH);
        e.refuses("push: too many, not so many there", busy, x -> x.push(0, 31), BAD_VALUE);
        e.refuses("push: none, into a full track", full, x -> x.push(7, 0), BAD_VALUE);
        e.refuses("train: no list, 8 wait", full, x -> x.train(0, 100), BAD_VALUE);
        e.refuses("train: due too early, 8 wait", full, x -> x.train(16, -1), BAD_VALUE);
        e.refuses("train: due too late, wagon of another", busy, x -> x.train(4, 5024), BAD_VALUE);
        e.refuses("train: a wagon twice, which is another's", busy, x -> x.train(Check.list(3, 3), 60), BAD_VALUE);
        e.refuses("train: a wagon of another, and one that has left", busy, x -> x.train(Check.list(3, 4), 60), BAD_VALUE);
        e.refuses("train: 8 wait, wagon of another", full, x -> x.train(15, 100), TOO_MANY);
        e.refuses("ofTrack: no track, no such number", busy, x -> x.ofTrack(3, 5), NO_SUCH);
        e.refuses("ofWagon: no wagon, no such number", busy, x -> x.ofWagon(8, 8), NO_SUCH);
        e.refuses("ofTrain: no train, no such number", busy, x -> x.ofTrain(2, 11), NO_SUCH);
        e.refuses("put: a bad code, no room", full, x -> x.put(32), BAD_VALUE);
        e.refuses("put: no character, no room", full, x -> x.put(0), BAD_VALUE);
        e.refuses("restore: no slot, nothing saved", PickupYard::new, x -> x.restore(2), BAD_VALUE);
    }

    private static void noneOnlyWithoutError() {
        e.says("NONE (-6) is not an error; it is returned only if no error applies");
        Supplier<PickupYard> busy = Edge::busy;
        e.asks("at(0, 3)", busy, x -> x.at(0, 3), NONE);
        e.asks("at(3, 3)", busy, x -> x.at(3, 3), NO_SUCH);
        e.asks("at(3, -1)", busy, x -> x.at(3, -1), NO_SUCH);
        e.asks("ofWagon(4, 1)", busy, x -> x.ofWagon(4, 1), NONE);
        e.asks("ofWagon(4, 8)", busy, x -> x.ofWagon(4, 8), BAD_VALUE);
        e.asks("ofTrain(0, 4)", busy, x -> x.ofTrain(0, 4), NONE);
        e.asks("ofTrain(2, 4)", busy, x -> x.ofTrain(2, 4), NO_SUCH);
        e.asks("pulls(1)", busy, x -> x.pulls(1), NONE);
        e.asks("pulls(2)", busy, x -> x.pulls(2), NO_SUCH);
        e.asks("wouldLeave(1)", busy, x -> x.wouldLeave(1), NONE);
        e.asks("wouldLeave(-1)", busy, x -> x.wouldLeave(-1), NO_SUCH);
        e.asks("moves(1)", busy, x -> x.moves(1), NONE);
        e.asks("moves(-6)", busy, x -> x.moves(-6), NO_SUCH);
        e.asks("fault()", busy, x -> x.fault(), NONE);
        e.says("NONE: at() of the engine");
        e.asks("at(NONE, 2)", busy, x -> x.at(NONE, 2), NONE);
        e.asks("at(NONE, -1)", busy, x -> x.at(NONE, -1), NONE);
    }

    private static void questionsChangeNothing() {
        e.says("what if; nothing changes");
        Supplier<PickupYard> busy = Edge::busy;
        Supplier<PickupYard> full = Edge::full;
        e.asks("freeFrom(18)", busy, x -> x.freeFrom(18), 60);
        e.asks("straight(0)", busy, x -> x.straight(0), 1);
        e.asks("straight(1)", busy, x -> x.straight(1), 0);
        e.asks("pulls(0)", busy, x -> x.pulls(0), 0);
        e.asks("wouldLeave(0)", busy, x -> x.wouldLeave(0), 23);
        e.asks("moves(0)", busy, x -> x.moves(0), 0);
        e.asks("moves(1)", full, x -> x.moves(1), NONE);
        e.asks("moves(0)", full, x -> x.moves(0), 1);
        e.asks("roomFor()", busy, x -> x.roomFor(), 7);
        e.asks("roomFor()", full, x -> x.roomFor(), 125);
        e.asks("buried()", busy, x -> x.buried(), 1);
        e.asks("buried()", full, x -> x.buried(), 0);
        e.says("what there is");
        e.asks("ofTrack(1, 3)", busy, x -> x.ofTrack(1, 3), 1);
        e.asks("at(NONE, 1)", busy, x -> x.at(NONE, 1), 7);
        e.asks("ofWagon(7, 2)", busy, x -> x.ofWagon(7, 2), 1);
        e.asks("ofTrain(1, 3)", busy, x -> x.ofTrain(1, 3), 6);
        e.asks("count(12)", busy, x -> x.count(12), 60);
    }

    private static void numberedFromZero() {
        e.says("Everything is numbered from 0, in the order in which it came to be");
        PickupYard x = new PickupYard();
        for (int i = 0; i < 8; i++) {
            e.due("track " + i, x.track(40 + i), i);
            e.due("its length", x.ofTrack(i, 0), 40 + i);
        }
        for (int i = 0; i < 30; i++) {
            e.due("wagon " + i, x.wagon(i % 8, 1 + i % 4), i);
            e.due("its length", x.ofWagon(i, 0), 1 + i % 4);
            e.due("its track", x.ofWagon(i, 1), i % 8);
        }
        for (int i = 0; i < 8; i++) {
            e.due("train " + i, x.train(1 + i, 10 + i), i);
            e.due("the minute in which it is due", x.ofTrain(i, 1), 10 + i);
        }
    }

    private static void minuteIsZero() {
        e.says("the minute is 0 at first");
        e.due("count(0)", new PickupYard().count(0), 0);
        e.due("save(0)", new PickupYard().save(0), 0);
        e.due("freeFrom(1)", new PickupYard().freeFrom(1), 0);
        e.due("pass(1)", new PickupYard().pass(1), 1);
        e.due("block(0, 1)", new PickupYard().block(0, 1), 1);
        e.due("block(-1, 1)", new PickupYard().block(-1, 1), BAD_VALUE);
    }

    // ---- settings

    private static void settingsAndTheirRanges() {
        setting("NECK (4 to 60; 16)", 0, 4, 60, 16);
        setting("LOOP (2 to 60; 12)", 1, 2, 60, 12);
        setting("MOVE (1 to 20; 4)", 2, 1, 20, 4);
        setting("COUPLE (0 to 10; 1)", 3, 0, 10, 1);
        setting("ROUND (1 to 60; 9)", 4, 1, 60, 9);
        setting("FINE (0 to 1000; 20)", 5, 0, 1000, 20);
        e.says("BAD_VALUE if there is no such setting");
        for (int value : new int[] {0, 4, 10, 20}) {
            e.range("set(s, " + value + ")", Edge::busy, (x, s) -> x.set(s, 6), 0, 5, BAD_VALUE);
        }
    }

    private static void setting(String sentence, int setting, int least, int most, int first) {
        e.says(sentence);
        e.due("count(15 + " + setting + ")", new PickupYard().count(15 + setting), first);
        e.due("the previous value", new PickupYard().set(setting, most), first);
        int[] range = {least, most};
        e.rangeSeen("set(" + setting + ", value)", PickupYard::new, (x, value) -> x.set(setting, value), range, BAD_VALUE,
            x -> x.count(15 + setting));
        e.range("set(" + setting + ", value)", Edge::busy, (x, value) -> x.set(setting, value), least, most, BAD_VALUE);
        PickupYard x = new PickupYard();
        x.set(setting, least);
        for (int other = 0; other < 6; other++) {
            int[] firsts = {16, 12, 4, 1, 9, 20};
            e.due("setting " + other, x.count(15 + other), other == setting ? least : firsts[other]);
        }
    }
}
