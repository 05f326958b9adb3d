import java.util.function.Supplier;

/** What promises 1 to 17 name as a boundary, sentence by sentence. */
public final class EdgesOfPromises1To17Test {
    private static final int NO_SUCH = -1, BAD_VALUE = -2, TOO_MANY = -4, NOT_POSSIBLE = -5, NONE = -6;
    private static final int MAX = Integer.MAX_VALUE, MIN = Integer.MIN_VALUE;
    private static final Edge e = new Edge();
    private static final Supplier<PickupYard> FRESH = PickupYard::new, BUSY = Edge::busy, FULL = Edge::full;

    public static void main(String[] args) {
        aNewObject();
        set();
        track();
        wagon();
        block();
        pull();
        push();
        round();
        pass();
        trainsNumber();
        train();
        strike();
        leave();
        ofTrack();
        at();
        ofWagon();
        ofTrain();
        count();
        e.end("EdgesOfPromises1To17Test");
    }

    private static void aNewObject() {
        e.says("Promise 1: creates a yard without tracks and wagons; the engine stands in the neck");
        PickupYard x = new PickupYard();
        e.due("count(1)", x.count(1), 0);
        e.due("count(2)", x.count(2), 0);
        e.row("the engine", x, NONE);
        e.due("ofTrack(0, 0)", x.ofTrack(0, 0), NO_SUCH);
        e.due("at(0, 0)", x.at(0, 0), NO_SUCH);
        e.due("ofWagon(0, 0)", x.ofWagon(0, 0), NO_SUCH);
        e.due("ofTrain(0, 0)", x.ofTrain(0, 0), NO_SUCH);
        e.refuses("wagon(0, 1)", FRESH, y -> y.wagon(0, 1), NO_SUCH);
        e.refuses("pull(0, 1)", FRESH, y -> y.pull(0, 1), NO_SUCH);
        e.refuses("push(0, 1)", FRESH, y -> y.push(0, 1), NO_SUCH);
        e.refuses("round()", FRESH, y -> y.round(), NOT_POSSIBLE);
        e.refuses("train(1, 0)", FRESH, y -> y.train(1, 0), BAD_VALUE);
        e.refuses("strike(0)", FRESH, y -> y.strike(0), NO_SUCH);
        e.refuses("leave(0)", FRESH, y -> y.leave(0), NO_SUCH);
        e.refuses("undo()", FRESH, y -> y.undo(), NOT_POSSIBLE);
        e.refuses("restore(1)", FRESH, y -> y.restore(1), NOT_POSSIBLE);
        e.refuses("carryOut()", FRESH, y -> y.carryOut(), -3);
    }

    private static void set() {
        e.says("Promise 2: wagons at the engine stay, also if they are longer than NECK then");
        PickupYard x = Check.yard(2, 60);
        Check.wagons(x, 0, 1, 4, 4, 4, 4);
        x.pull(0, 4);
        e.due("set(NECK, 4)", x.set(0, 4), 16);
        e.due("count(3)", x.count(3), 4);
        e.due("count(4)", x.count(4), 16);
        e.row("the engine", x, NONE, 4, 3, 2, 1);
        e.due("pull(0, 1)", x.pull(0, 1), NOT_POSSIBLE);
        e.due("push(1, 3)", x.push(1, 3), 1);
        e.due("pull(0, 1), as long as NECK and 1 more", x.pull(0, 1), NOT_POSSIBLE);
        e.due("push(1, 1)", x.push(1, 1), 0);
        e.due("pull(0, 1)", x.pull(0, 1), 1);
        e.says("Promise 2: returns the previous value");
        for (int setting = 0; setting < 6; setting++) {
            int[] first = {16, 12, 4, 1, 9, 20};
            PickupYard y = new PickupYard();
            e.due("set(" + setting + ", 10)", y.set(setting, 10), first[setting]);
            e.due("set(" + setting + ", 7)", y.set(setting, 7), 10);
            e.due("set(" + setting + ", 7) again", y.set(setting, 7), 7);
            e.refuses("set(" + setting + ", MAX)", BUSY, z -> z.set(2, MAX), BAD_VALUE);
        }
        e.says("Promise 2: BAD_VALUE if there is no such setting");
        e.range("set(s, 10)", FRESH, (z, s) -> z.set(s, 10), 0, 5, BAD_VALUE);
        e.range("set(s, 10), full", FULL, (z, s) -> z.set(s, 10), 0, 5, BAD_VALUE);
    }

    private static void track() {
        e.says("Promise 3: length 4 to 60");
        e.range("track(length)", BUSY, (x, length) -> x.track(length), 4, 60, BAD_VALUE);
        e.due("returns its number", Edge.busy().track(10), 3);
        e.says("Promise 3: TOO_MANY if there are 8 tracks");
        e.due("track 7", Check.yard(7, 10).track(10), 7);
        e.refuses("track 8", FULL, x -> x.track(60), TOO_MANY);
        e.refuses("track 8", FULL, x -> x.track(4), TOO_MANY);
    }

    private static PickupYard withWagons(int many) {
        PickupYard x = Check.yard(2, 60);
        x.track(4);
        for (int i = 0; i < many; i++) {
            x.wagon(i == 3 ? 1 : i == 2 ? 2 : 0, i == 2 ? 4 : 1);
        }
        return x;
    }

    private static void wagon() {
        e.says("Promise 4: adds a wagon at the open end of a track");
        PickupYard x = withWagons(2);
        e.due("wagon(0, 2)", x.wagon(0, 2), 2);
        e.row("the track", x, 0, 2, 1, 0);
        e.row("another one", x, 1);
        e.due("wagon(1, 4)", x.wagon(1, 4), 3);
        e.row("another one", x, 1, 3);
        e.due("count(0)", x.count(0), 0);
        e.due("count(10)", x.count(10), 0);
        e.due("ofTrack(0, 4)", x.ofTrack(0, 4), 0);
        e.says("Promise 4: NO_SUCH if there is no such track");
        e.range("wagon(track, 1)", BUSY, (y, track) -> y.wagon(track, 1), 0, 2, NO_SUCH);
        e.refuses("wagon(8, 1), full", FULL, y -> y.wagon(8, 1), NO_SUCH);
        e.says("Promise 4: length 1 to 4");
        e.range("wagon(0, length)", BUSY, (y, length) -> y.wagon(0, length), 1, 4, BAD_VALUE);
        e.range("wagon(2, length)", () -> withWagons(1), (y, length) -> y.wagon(2, length), 1, 4, BAD_VALUE);
        e.says("Promise 4: TOO_MANY if there were 30 wagons");
        e.due("wagon 29", withWagons(29).wagon(0, 1), 29);
        e.refuses("wagon 30", () -> withWagons(30), y -> y.wagon(0, 1), TOO_MANY);
        e.says("Promise 4: NOT_POSSIBLE if it does not fit on the track");
        e.refuses("wagon(2, 1) on a full track", () -> withWagons(3), y -> y.wagon(2, 1), NOT_POSSIBLE);
        PickupYard z = withWagons(2);
        z.wagon(2, 2);
        e.due("3 to 2 of 4", z.wagon(2, 3), NOT_POSSIBLE);
        e.due("2 to 2 of 4", z.wagon(2, 2), 3);
        e.due("1 to 4 of 4", z.wagon(2, 1), NOT_POSSIBLE);
        z.pull(2, 1);
        e.due("2 to 2 of 4 again", z.wagon(2, 2), 4);
    }

    private static PickupYard inMinute(int minute) {
        PickupYard x = new PickupYard();
        if (minute > 0) {
            x.pass(minute);
        }
        return x;
    }

    private static void block() {
        e.says("Promise 5: from: the present minute to 2000 minutes later");
        for (int minute : new int[] {0, 1, 700}) {
            e.range("block(from, 5) in minute " + minute, () -> inMinute(minute), (x, from) -> x.block(from, 5), minute,
                minute + 2000, BAD_VALUE);
        }
        e.range("block(from, 500)", BUSY, (x, from) -> x.block(from, 500), 23, 2023, BAD_VALUE);
        e.says("Promise 5: minutes: 1 to 500");
        e.range("block(23, minutes)", BUSY, (x, minutes) -> x.block(23, minutes), 1, 500, BAD_VALUE);
        e.range("block(2023, minutes)", BUSY, (x, minutes) -> x.block(2023, minutes), 1, 500, BAD_VALUE);
        e.says("Promise 5: returns how many blocks there are then");
        PickupYard x = inMinute(5);
        for (int i = 1; i <= 10; i++) {
            e.due("block(10, 5)", x.block(10, 5), i);
        }
        e.due("count(8)", x.count(8), 10);
        e.says("Promise 5: TOO_MANY if there are 10 blocks");
        e.refuses("block 11", FULL, y -> y.block(200, 5), TOO_MANY);
        e.refuses("block 11, as one that is there", FULL, y -> y.block(100, 5), TOO_MANY);
    }

    private static PickupYard withThirty() {
        PickupYard x = Check.yard(2, 60);
        x.set(0, 60);
        for (int i = 0; i < 30; i++) {
            x.wagon(0, 2);
        }
        return x;
    }

    private static PickupYard withThirtyPulled() {
        PickupYard x = withThirty();
        x.pull(0, 30);
        return x;
    }

    private static void pull() {
        e.says("Promise 6: NO_SUCH if there is no such track");
        Supplier<PickupYard> three = () -> {
            PickupYard x = Check.yard(3, 20);
            for (int track = 0; track < 3; track++) {
                x.wagon(track, 1);
            }
            return x;
        };
        e.range("pull(track, 1)", three, (x, track) -> x.pull(track, 1), 0, 2, NO_SUCH);
        e.refuses("pull(8, 1), full", FULL, x -> x.pull(8, 1), NO_SUCH);
        e.says("Promise 6: many 1 to 30");
        e.range("pull(0, many)", () -> withThirty(), (x, many) -> x.pull(0, many), 1, 30, BAD_VALUE);
        e.says("Promise 6: returns how many wagons are at the engine then");
        for (int many = 1; many < 30; many++) {
            PickupYard x = withThirty();
            e.due("pull(0, " + many + ")", x.pull(0, many), many);
            e.due("pull of the others", x.pull(0, 30 - many), 30);
        }
        e.says("Promise 6: NOT_POSSIBLE if there are not so many on the track");
        e.due("pull(0, 3) of 3", Edge.busy().pull(0, 3), 5);
        e.refuses("pull(0, 4) of 3", BUSY, x -> x.pull(0, 4), NOT_POSSIBLE);
        e.refuses("pull(2, 1) of none", BUSY, x -> x.pull(2, 1), NOT_POSSIBLE);
        e.refuses("pull(0, 30) of 3", BUSY, x -> x.pull(0, 30), NOT_POSSIBLE);
        e.says("Promise 6: NOT_POSSIBLE if they would be too long for the neck");
        PickupYard x = Edge.busy();
        x.set(0, 10);
        e.due("pull(0, 3), 10 in a neck of 10", x.pull(0, 3), 5);
        e.refuses("pull(0, 3), 10 in a neck of 9", () -> {
            PickupYard y = Edge.busy();
            y.set(0, 9);
            return y;
        }, y -> y.pull(0, 3), NOT_POSSIBLE);
        e.refuses("pull(1, 1), 61 in a neck of 60", FULL, y -> y.pull(1, 1), NOT_POSSIBLE);
    }

    private static void push() {
        e.says("Promise 7: NO_SUCH if there is no such track");
        e.range("push(track, 1)", BUSY, (x, track) -> x.push(track, 1), 0, 2, NO_SUCH);
        e.refuses("push(8, 1), full", FULL, x -> x.push(8, 1), NO_SUCH);
        e.says("Promise 7: many 1 to 30");
        e.range("push(1, many)", () -> withThirtyPulled(), (x, many) -> x.push(1, many), 1, 30, BAD_VALUE);
        e.says("Promise 7: returns how many wagons are at the engine then");
        for (int many = 1; many < 30; many++) {
            PickupYard x = withThirtyPulled();
            e.due("push(1, " + many + ")", x.push(1, many), 30 - many);
            e.due("push of the others", x.push(0, 30 - many), 0);
        }
        e.says("Promise 7: NOT_POSSIBLE if there are not so many at the engine");
        e.due("push(0, 2) of 2", Edge.busy().push(0, 2), 0);
        e.refuses("push(0, 3) of 2", BUSY, x -> x.push(0, 3), NOT_POSSIBLE);
        e.refuses("push(0, 1) of none", () -> withThirty(), x -> x.push(1, 1), NOT_POSSIBLE);
        e.says("Promise 7: NOT_POSSIBLE if they do not fit on the track");
        e.refuses("push(7, 1), 4 to 4 of 4", FULL, x -> x.push(7, 1), NOT_POSSIBLE);
        PickupYard x = Edge.busy();
        Check.wagons(x, 2, 4, 2);
        e.due("push(2, 2), 3 to 6 of 8", x.push(2, 2), NOT_POSSIBLE);
        e.due("push(2, 1), 2 to 6 of 8", x.push(2, 1), 1);
        e.due("push(2, 1), 1 to 8 of 8", x.push(2, 1), NOT_POSSIBLE);
        e.due("push(0, 1)", x.push(0, 1), 0);
    }

    private static void round() {
        e.says("Promise 8: returns the minute then");
        PickupYard x = Edge.busy();
        e.due("round()", x.round(), 34);
        e.due("count(0)", x.count(0), 34);
        e.due("round(), which waits for a block", x.round(), 71);
        e.due("count(11)", x.count(11), 2 + 26);
        e.says("Promise 8: NOT_POSSIBLE if there are no wagons at the engine, or they are too long for the loop");
        e.refuses("round() without wagons", () -> withThirty(), y -> y.round(), NOT_POSSIBLE);
        e.refuses("round(), 60 in a loop of 12", FULL, y -> y.round(), NOT_POSSIBLE);
        e.refuses("round(), 3 in a loop of 2", () -> {
            PickupYard y = Edge.busy();
            y.set(1, 2);
            return y;
        }, y -> y.round(), NOT_POSSIBLE);
        PickupYard z = Edge.busy();
        z.set(1, 3);
        e.due("round(), 3 in a loop of 3", z.round(), 34);
        e.row("the engine", z, NONE, 7, 3);
    }

    private static void pass() {
        e.says("Promise 9: minutes 1 to 999");
        int[] range = {1, 999};
        e.rangeSeen("pass(minutes)", FRESH, (x, minutes) -> x.pass(minutes), range, BAD_VALUE, x -> x.count(0));
        e.range("pass(minutes)", FULL, (x, minutes) -> x.pass(minutes), 1, 999, BAD_VALUE);
        e.says("Promise 9: returns the minute then");
        PickupYard x = Edge.busy();
        e.due("pass(1)", x.pass(1), 24);
        e.due("pass(999)", x.pass(999), 1023);
        e.due("pass in a block is no waiting", x.count(11), 2);
    }

    private static PickupYard withAll() {
        return withWagons(30);
    }

    private static void trainsNumber() {
        e.says("Promise 10: 31 ^ 0 times the first one plus 1, 31 ^ 1 times the second one plus 1, and so on");
        long power = 1;
        long told = 0;
        for (int place = 0; place < 8; place++) {
            told += power * (29 - place + 1);
            power *= 31;
            PickupYard x = withAll();
            e.due("train(" + told + ", 9)", x.train(told, 9), 0);
            e.due("its wagons", x.ofTrain(0, 0), place + 1);
            e.due("the last one", x.ofTrain(0, 2 + place), 29 - place);
        }
        e.due("wagon 0", withAll().train(1, 9), 0);
        e.due("wagon 29", withAll().train(30, 9), 0);
        e.says("Promise 10: 0 behind the last one");
        e.refuses("0 as the first one", () -> withAll(), x -> x.train(31, 9), BAD_VALUE);
        for (int gap = 0; gap < 7; gap++) {
            long before = 0;
            for (int i = 7; i >= 0; i--) {
                before = before * 31 + (i == gap ? 0 : i + 1);
            }
            long withGap = before;
            e.refuses("0 at place " + gap, () -> withAll(), x -> x.train(withGap, 9), BAD_VALUE);
        }
        long ninth = 852891037441L;
        e.refuses("a ninth place alone", () -> withAll(), x -> x.train(ninth, 9), BAD_VALUE);
        e.refuses("a ninth place behind a gap", () -> withAll(), x -> x.train(1 + ninth, 9), BAD_VALUE);
        e.refuses("a ninth place behind eight", () -> withAll(), x -> x.train(Check.list(0, 1, 2, 3, 4, 5, 6, 7) + 9 * ninth, 9),
            BAD_VALUE);
        for (int bit = 40; bit <= 63; bit++) {
            long high = 1L << bit;
            e.refuses("a list and the bit " + bit, () -> withAll(), x -> x.train(Check.list(3, 4) + high, 9), BAD_VALUE);
            e.refuses("the bit " + bit, () -> withAll(), x -> x.train(high, 9), BAD_VALUE);
        }
        for (long number : new long[] {0, -1, -2, -31, Long.MIN_VALUE, Long.MIN_VALUE + 1, Long.MAX_VALUE, Long.MAX_VALUE - 1}) {
            e.refuses("train(" + number + ", 9)", () -> withAll(), x -> x.train(number, 9), BAD_VALUE);
            e.refuses("train(" + number + ", 100), full", FULL, x -> x.train(number, 100), BAD_VALUE);
        }
    }

    private static void train() {
        e.says("Promise 10: a list of 1 to 8 different wagons that have not left");
        for (int wagons = 1; wagons <= 30; wagons++) {
            int many = wagons;
            for (int wagon = 0; wagon < wagons; wagon++) {
                e.due("train of wagon " + wagon + " of " + wagons, withWagons(many).train(wagon + 1, 9), 0);
            }
            e.refuses("train of wagon " + wagons + " of as many", () -> withWagons(many), x -> x.train(many + 1, 9), BAD_VALUE);
        }
        e.refuses("a wagon that has left", BUSY, x -> x.train(Check.list(4), 60), BAD_VALUE);
        e.refuses("one that has left behind one that has not", BUSY, x -> x.train(Check.list(2, 4), 60), BAD_VALUE);
        e.refuses("a wagon twice", BUSY, x -> x.train(Check.list(2, 2), 60), BAD_VALUE);
        e.refuses("a wagon that is not there", BUSY, x -> x.train(Check.list(8), 60), BAD_VALUE);
        e.due("wagons on two tracks", Edge.busy().train(Check.list(2, 5), 60), 2);
        PickupYard y = Edge.busy();
        y.strike(0);
        e.due("wagons at the engine", y.train(Check.list(7, 3), 60), 1);
        e.says("Promise 10: due: the present minute to 5000 minutes later");
        int[] range = {23, 5023};
        e.rangeSeen("train(3, due)", BUSY, (x, due) -> x.train(3, due), range, BAD_VALUE, x -> x.ofTrain(2, 1));
        e.range("train(1, due)", () -> withAll(), (x, due) -> x.train(1, due), 0, 5000, BAD_VALUE);
        e.says("Promise 10: TOO_MANY if 8 trains wait");
        e.refuses("train 8", FULL, x -> x.train(Check.list(0), 100), TOO_MANY);
        e.says("Promise 10: NOT_POSSIBLE if a wagon is in the list of another train that waits");
        e.refuses("the first wagon of one", BUSY, x -> x.train(Check.list(3), 60), NOT_POSSIBLE);
        e.refuses("the last wagon of one", BUSY, x -> x.train(Check.list(7), 60), NOT_POSSIBLE);
        e.refuses("the last wagon of the last one, as the last", BUSY, x -> x.train(Check.list(2, 1, 5, 6), 60), NOT_POSSIBLE);
        e.refuses("the first wagon of the last one, as the first", BUSY, x -> x.train(Check.list(0, 1), 60), NOT_POSSIBLE);
        PickupYard z = Edge.busy();
        z.strike(1);
        e.due("wagons of one that was struck", z.train(Check.list(6, 0), 60), 1);
    }

    private static void strike() {
        e.says("Promise 11: NO_SUCH if there is no such train");
        e.range("strike(train)", BUSY, (x, train) -> x.strike(train), 0, 1, NO_SUCH);
        e.range("strike(train), full", FULL, (x, train) -> x.strike(train), 0, 7, NO_SUCH);
        e.says("Promise 11: returns how many trains wait then");
        PickupYard x = Edge.full();
        for (int left = 7; left >= 0; left--) {
            e.due("strike(" + left / 2 + ")", x.strike(left / 2), left);
            e.due("count(6)", x.count(6), left);
        }
        e.due("strike(0) of none", x.strike(0), NO_SUCH);
        e.due("count(7)", x.count(7), 0);
        e.due("count(3)", x.count(3), 15);
    }

    private static PickupYard single(int due, int pass) {
        PickupYard x = Check.yard(1, 20);
        x.wagon(0, 1);
        x.train(1, due);
        x.pull(0, 1);
        if (pass > 0) {
            x.pass(pass);
        }
        return x;
    }

    private static void leave() {
        e.says("Promise 12: returns the minutes by which it is late (0 if it is not)");
        e.due("long before it is due", single(5000, 0).leave(0), 0);
        e.due("a minute before", single(10, 4).leave(0), 0);
        e.due("in the minute", single(10, 5).leave(0), 0);
        e.due("a minute behind", single(10, 6).leave(0), 1);
        e.due("late by 999", single(5, 999).leave(0), 999);
        e.due("due in minute 0", single(0, 0).leave(0), 5);
        e.says("Promise 12: NO_SUCH if there is no such train");
        for (int train : new int[] {-1, 2, 3, -6, MAX, MIN}) {
            e.refuses("leave(" + train + ")", BUSY, x -> x.leave(train), NO_SUCH);
        }
        e.refuses("leave(8), full", FULL, x -> x.leave(8), NO_SUCH);
        e.says("Promise 12: NOT_POSSIBLE if the wagons at the engine are not those of its list, in its order");
        e.due("leave(0)", Edge.busy().leave(0), 1);
        e.refuses("leave(1)", BUSY, x -> x.leave(1), NOT_POSSIBLE);
        e.refuses("leave(0) turned", () -> {
            PickupYard x = Edge.busy();
            x.round();
            return x;
        }, x -> x.leave(0), NOT_POSSIBLE);
        for (int train = 0; train < 8; train++) {
            int one = train;
            e.refuses("leave(" + train + ") with 15 wagons", FULL, x -> x.leave(one), NOT_POSSIBLE);
        }
    }

    // ---- what there is

    private static void ofTrack() {
        e.says("Promise 13: NO_SUCH if there is no such track");
        for (int what = 0; what <= 4; what++) {
            int one = what;
            e.range("ofTrack(track, " + what + ")", BUSY, (x, track) -> x.ofTrack(track, one), 0, 2, NO_SUCH);
            e.range("ofTrack(track, " + what + "), full", FULL, (x, track) -> x.ofTrack(track, one), 0, 7, NO_SUCH);
        }
        e.says("Promise 13: BAD_VALUE if what is out of range (0 to 4)");
        e.range("ofTrack(0, what)", BUSY, (x, what) -> x.ofTrack(0, what), 0, 4, BAD_VALUE);
        e.range("ofTrack(7, what)", FULL, (x, what) -> x.ofTrack(7, what), 0, 4, BAD_VALUE);
        e.says("Promise 13: 0 its length, 1 its wagons, 2 their lengths together, 3 came out of it, 4 were pushed into it");
        PickupYard x = withThirtyPulled();
        int[] emptied = {60, 0, 0, 30, 0};
        int[] never = {60, 0, 0, 0, 0};
        for (int what = 0; what <= 4; what++) {
            e.due("emptied: ofTrack(0, " + what + ")", x.ofTrack(0, what), emptied[what]);
            e.due("always empty: ofTrack(1, " + what + ")", x.ofTrack(1, what), never[what]);
        }
        x.push(1, 30);
        int[] filled = {60, 30, 60, 0, 30};
        for (int what = 0; what <= 4; what++) {
            e.due("filled: ofTrack(1, " + what + ")", x.ofTrack(1, what), filled[what]);
        }
        for (int i = 1; i <= 9; i++) {
            x.pull(1, 3);
            e.due("3 wagons more came out", x.ofTrack(1, 3), 3 * i);
            x.push(1, 2);
            x.push(1, 1);
            e.due("3 wagons more were pushed in", x.ofTrack(1, 4), 30 + 3 * i);
        }
    }

    private static void at() {
        e.says("Promise 14: NO_SUCH if there is no such track");
        for (int track : new int[] {-1, -2, -5, -7, 3, 8, 9, MAX, MIN}) {
            e.refuses("at(" + track + ", 0)", BUSY, x -> x.at(track, 0), NO_SUCH);
        }
        e.refuses("at(8, 0), full", FULL, x -> x.at(8, 0), NO_SUCH);
        e.says("Promise 14: NONE if there is none at this place (also below 0)");
        int[] tracks = {0, 1, 2, NONE};
        int[] many = {3, 2, 0, 2};
        for (int i = 0; i < 4; i++) {
            int track = tracks[i];
            e.range("at(" + track + ", place)", BUSY, (x, place) -> x.at(track, place), 0, many[i] - 1, NONE);
            for (int place = 0; place < many[i]; place++) {
                e.holds("at(" + track + ", " + place + ")", Edge.busy().at(track, place) >= 0);
            }
        }
        e.says("Promise 14: track: a track, or NONE for the engine");
        e.row("a track", Edge.busy(), 0, 2, 1, 0);
        e.row("an empty track", Edge.busy(), 2);
        e.row("the engine", Edge.busy(), NONE, 3, 7);
        e.row("the engine without wagons", Edge.withoutWagonsAtEngine(), NONE);
        e.row("a full track", Edge.full(), 7, 29);
    }

    private static void ofWagon() {
        e.says("Promise 15: NO_SUCH if there is no such wagon");
        for (int what = 0; what <= 7; what++) {
            int one = what;
            e.range("ofWagon(wagon, " + what + ")", BUSY, (x, wagon) -> x.ofWagon(wagon, one), 0, 7, NO_SUCH);
            e.range("ofWagon(wagon, " + what + "), full", FULL, (x, wagon) -> x.ofWagon(wagon, one), 0, 29, NO_SUCH);
        }
        e.says("Promise 15: BAD_VALUE if what is out of range (0 to 7)");
        for (int wagon : new int[] {0, 3, 4, 7}) {
            e.range("ofWagon(" + wagon + ", what)", BUSY, (x, what) -> x.ofWagon(wagon, what), 0, 7, BAD_VALUE);
        }
        e.says("Promise 15: NONE if it is on none, has left, or none waits");
        PickupYard x = Edge.busy();
        int[][] due = {
            {2, 0, 2, 0, NONE, 0, 1, 2},
            {3, 0, 0, 0, NONE, 0, NONE, 0},
            {1, NONE, 0, 1, NONE, 1, 0, NONE},
            {1, NONE, NONE, 0, 6, 1, NONE, NONE},
            {2, NONE, 1, 1, NONE, 1, 0, NONE},
        };
        int[] wagons = {0, 2, 3, 4, 7};
        for (int i = 0; i < wagons.length; i++) {
            for (int what = 0; what <= 7; what++) {
                e.due("ofWagon(" + wagons[i] + ", " + what + ")", x.ofWagon(wagons[i], what), due[i][what]);
            }
        }
        e.says("Promise 15: 5 how often it was pulled out of a track");
        PickupYard y = Check.yard(1, 20);
        y.wagon(0, 1);
        for (int i = 0; i <= 20; i++) {
            e.due("ofWagon(0, 5)", y.ofWagon(0, 5), i);
            y.pull(0, 1);
            e.due("ofWagon(0, 5) at the engine", y.ofWagon(0, 5), i + 1);
            y.push(0, 1);
        }
    }

    private static void ofTrain() {
        e.says("Promise 16: NO_SUCH if there is no such train");
        for (int what = 0; what <= 10; what++) {
            int one = what;
            e.range("ofTrain(train, " + what + ")", BUSY, (x, train) -> x.ofTrain(train, one), 0, 1, NO_SUCH);
            e.range("ofTrain(train, " + what + "), full", FULL, (x, train) -> x.ofTrain(train, one), 0, 7, NO_SUCH);
        }
        e.says("Promise 16: BAD_VALUE if what is out of range (0 to 10)");
        e.range("ofTrain(0, what)", BUSY, (x, what) -> x.ofTrain(0, what), 0, 10, BAD_VALUE);
        e.range("ofTrain(7, what)", FULL, (x, what) -> x.ofTrain(7, what), 0, 10, BAD_VALUE);
        e.says("Promise 16: 2 to 9 its wagons (NONE if there are not so many), 10 their lengths together");
        for (int size = 1; size <= 8; size++) {
            PickupYard x = Check.yard(1, 60);
            int[] list = new int[size];
            int together = 0;
            for (int i = 0; i < 8; i++) {
                x.wagon(0, 1 + i % 4);
                if (i < size) {
                    list[i] = i;
                    together += 1 + i % 4;
                }
            }
            x.train(Check.list(list), 77);
            e.due("ofTrain(0, 0)", x.ofTrain(0, 0), size);
            e.due("ofTrain(0, 1)", x.ofTrain(0, 1), 77);
            for (int i = 0; i < 8; i++) {
                e.due("ofTrain(0, " + (2 + i) + ")", x.ofTrain(0, 2 + i), i < size ? i : NONE);
            }
            e.due("ofTrain(0, 10)", x.ofTrain(0, 10), together);
        }
    }

    private static void count() {
        e.says("Promise 17: BAD_VALUE if what is out of range (0 to 20)");
        e.range("count(what)", FRESH, (x, what) -> x.count(what), 0, 20, BAD_VALUE);
        e.range("count(what)", BUSY, (x, what) -> x.count(what), 0, 20, BAD_VALUE);
        e.range("count(what)", FULL, (x, what) -> x.count(what), 0, 20, BAD_VALUE);
        e.says("Promise 17: a number about the yard, when nothing is there, some, and all");
        PickupYard left = withAll();
        for (int i = 1; i <= 10; i++) {
            left.train(Check.list(left.at(0, 0), left.at(0, 1)), 500);
            left.pull(0, 2);
            left.leave(0);
            e.due("count(5), wagons that have left", left.count(5), 2 * i);
            e.due("count(7), trains that have left", left.count(7), i);
        }
        int[] fresh = {0, 0, 0, 0, 0, 0, 0, 0, 0, 0, 0, 0, 0, 0, 0, 16, 12, 4, 1, 9, 20};
        int[] busy = {23, 3, 8, 2, 3, 1, 2, 1, 1, 6, 3, 2, 60, 6, 6, 16, 12, 4, 1, 9, 25};
        int[] full = {5, 8, 30, 15, 60, 0, 8, 0, 10, 1, 1, 0, 0, 80, 6, 60, 12, 4, 1, 9, 20};
        for (int what = 0; what <= 20; what++) {
            e.due("fresh: count(" + what + ")", new PickupYard().count(what), fresh[what]);
            e.due("busy: count(" + what + ")", Edge.busy().count(what), busy[what]);
            e.due("full: count(" + what + ")", Edge.full().count(what), full[what]);
        }
    }
}
