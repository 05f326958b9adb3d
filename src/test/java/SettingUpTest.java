/** Promises 1 to 5: a new object, set, track, wagon, block. */
public final class SettingUpTest {
    private static final int MAX = Integer.MAX_VALUE, MIN = Integer.MIN_VALUE;
    private static final Check c = new Check();

    public static void main(String[] args) {
        aNewObject();
        set();
        track();
        wagon();
        block();
        blockGoes();
        c.end("SettingUpTest");
    }

    private static void aNewObject() {
        PickupYard x = new PickupYard();
        int[] counts = {0, 0, 0, 0, 0, 0, 0, 0, 0, 0, 0, 0, 0, 0, 0, 16, 12, 4, 1, 9, 20};
        for (int what = 0; what < counts.length; what++) {
            c.due("new: count(" + what + ")", x.count(what), counts[what]);
        }
        c.due("new: at(NONE, 0)", x.at(-6, 0), -6);
        c.due("new: ofTrack(0, 0)", x.ofTrack(0, 0), -1);
        c.due("new: ofWagon(0, 0)", x.ofWagon(0, 0), -1);
        c.due("new: ofTrain(0, 0)", x.ofTrain(0, 0), -1);
        c.due("new: freeFrom(500)", x.freeFrom(500), 0);
        c.due("new: roomFor()", x.roomFor(), 0);
        c.due("new: buried()", x.buried(), 0);
        c.due("new: fault()", x.fault(), 0);
        c.due("new: undo()", x.undo(), -5);
        c.due("new: restore(0)", x.restore(0), -5);
        x.track(4);
        c.due("another new: count(1)", new PickupYard().count(1), 0);
    }

    private static void set() {
        int[] least = {4, 2, 1, 0, 1, 0};
        int[] most = {60, 60, 20, 10, 60, 1000};
        int[] first = {16, 12, 4, 1, 9, 20};
        PickupYard x = new PickupYard();
        for (int setting = 0; setting < 6; setting++) {
            int s = setting;
            c.changesNothing(x, "set below", () -> x.set(s, least[s] - 1), -2);
            c.changesNothing(x, "set above", () -> x.set(s, most[s] + 1), -2);
            c.changesNothing(x, "set far above", () -> x.set(s, MAX), -2);
            c.changesNothing(x, "set far below", () -> x.set(s, MIN), -2);
            c.isChange(x, "set to the least", () -> x.set(s, least[s]), first[s]);
            c.due("count after the least", x.count(15 + s), least[s]);
            c.isChange(x, "set to the most", () -> x.set(s, most[s]), least[s]);
            c.due("count after the most", x.count(15 + s), most[s]);
            c.isChange(x, "set to the same", () -> x.set(s, most[s]), most[s]);
        }
        c.changesNothing(x, "set(-1, 5)", () -> x.set(-1, 5), -2);
        c.changesNothing(x, "set(6, 5)", () -> x.set(6, 5), -2);
        c.changesNothing(x, "set(MAX, 5)", () -> x.set(MAX, 5), -2);
        c.changesNothing(x, "set(MIN, 5)", () -> x.set(MIN, 5), -2);
        wagonsStayBeyondTheNeck();
    }

    private static void wagonsStayBeyondTheNeck() {
        PickupYard x = Check.yard(2, 30);
        Check.wagons(x, 0, 4, 4, 4);
        x.pull(0, 2);
        c.due("set(NECK, 4)", x.set(0, 4), 16);
        c.due("wagons stay", x.count(4), 8);
        c.changesNothing(x, "pull beyond the neck", () -> x.pull(0, 1), -5);
        c.due("round beyond the neck", x.round() > 0 ? 1 : 0, 1);
        c.due("push beyond the neck", x.push(1, 2), 0);
        c.due("pull one", x.pull(0, 1), 1);
    }

    private static void track() {
        PickupYard x = new PickupYard();
        c.changesNothing(x, "track(3)", () -> x.track(3), -2);
        c.changesNothing(x, "track(61)", () -> x.track(61), -2);
        c.changesNothing(x, "track(MIN)", () -> x.track(MIN), -2);
        c.changesNothing(x, "track(MAX)", () -> x.track(MAX), -2);
        for (int i = 0; i < 8; i++) {
            int number = i;
            int length = i == 0 ? 4 : i == 1 ? 60 : 10 + i;
            c.isChange(x, "track", () -> x.track(length), number);
            c.due("ofTrack(i, 0)", x.ofTrack(i, 0), length);
            c.due("ofTrack(i, 1)", x.ofTrack(i, 1), 0);
        }
        c.due("count(1)", x.count(1), 8);
        c.changesNothing(x, "ninth track", () -> x.track(10), -4);
        c.changesNothing(x, "ninth track, too short", () -> x.track(3), -2);
    }

    private static void wagon() {
        PickupYard x = Check.yard(2, 10);
        c.changesNothing(x, "wagon(2, 1)", () -> x.wagon(2, 1), -1);
        c.changesNothing(x, "wagon(-1, 1)", () -> x.wagon(-1, 1), -1);
        c.changesNothing(x, "wagon(NONE, 1)", () -> x.wagon(-6, 1), -1);
        c.changesNothing(x, "wagon(2, 0)", () -> x.wagon(2, 0), -1);
        c.changesNothing(x, "wagon(0, 0)", () -> x.wagon(0, 0), -2);
        c.changesNothing(x, "wagon(0, 5)", () -> x.wagon(0, 5), -2);
        c.changesNothing(x, "wagon(0, MAX)", () -> x.wagon(0, MAX), -2);
        c.changesNothing(x, "wagon(0, MIN)", () -> x.wagon(0, MIN), -2);
        c.isChange(x, "wagon(0, 4)", () -> x.wagon(0, 4), 0);
        c.isChange(x, "wagon(0, 3)", () -> x.wagon(0, 3), 1);
        c.due("at the open end", x.at(0, 0), 1);
        c.due("at the buffer", x.at(0, 1), 0);
        c.changesNothing(x, "wagon that does not fit", () -> x.wagon(0, 4), -5);
        c.changesNothing(x, "too long a wagon where none fits", () -> x.wagon(0, 5), -2);
        c.isChange(x, "wagon that just fits", () -> x.wagon(0, 3), 2);
        c.due("wagon on the other track", x.wagon(1, 1), 3);
        c.due("its length", x.ofWagon(3, 0), 1);
        c.due("no minute has passed", x.count(0), 0);
        c.due("nothing was pushed in", x.ofTrack(0, 4), 0);
        thirtyWagons();
    }

    private static void thirtyWagons() {
        PickupYard x = Check.yard(2, 60);
        for (int i = 0; i < 29; i++) {
            c.due("wagon " + i, x.wagon(0, 1), i);
        }
        x.train(Check.list(28), 100);
        x.pull(0, 1);
        c.due("one leaves", x.leave(0), 0);
        c.due("the thirtieth", x.wagon(0, 1), 29);
        c.changesNothing(x, "wagon 31, though one has left", () -> x.wagon(0, 1), -4);
        c.changesNothing(x, "wagon 31, too long", () -> x.wagon(0, 5), -2);
        c.changesNothing(x, "wagon 31, no track", () -> x.wagon(2, 1), -1);
        PickupYard y = Check.yard(2, 60);
        y.track(4);
        for (int i = 0; i < 30; i++) {
            y.wagon(i == 0 ? 2 : 0, i == 0 ? 4 : 1);
        }
        c.changesNothing(y, "wagon 31, which does not fit either", () -> y.wagon(2, 1), -4);
    }

    private static void block() {
        PickupYard x = new PickupYard();
        x.pass(10);
        c.changesNothing(x, "block(9, 5)", () -> x.block(9, 5), -2);
        c.changesNothing(x, "block(2011, 5)", () -> x.block(2011, 5), -2);
        c.changesNothing(x, "block(10, 0)", () -> x.block(10, 0), -2);
        c.changesNothing(x, "block(10, 501)", () -> x.block(10, 501), -2);
        c.changesNothing(x, "block(MAX, 5)", () -> x.block(MAX, 5), -2);
        c.changesNothing(x, "block(MIN, 5)", () -> x.block(MIN, 5), -2);
        c.changesNothing(x, "block(10, MAX)", () -> x.block(10, MAX), -2);
        c.changesNothing(x, "block(10, MIN)", () -> x.block(10, MIN), -2);
        c.isChange(x, "block(2010, 500)", () -> x.block(2010, 500), 1);
        c.isChange(x, "block(10, 1)", () -> x.block(10, 1), 2);
        c.isChange(x, "the same block again", () -> x.block(10, 1), 3);
        c.due("count(8)", x.count(8), 3);
        c.due("freeFrom(1)", x.freeFrom(1), 11);
        for (int i = 4; i <= 10; i++) {
            c.due("block " + i, x.block(20 * i, 10), i);
        }
        c.changesNothing(x, "block 11", () -> x.block(20, 10), -4);
        c.changesNothing(x, "block 11, too long", () -> x.block(20, 501), -2);
        x.pass(1);
        c.due("blocks once two have gone", x.count(8), 8);
        c.due("block in their place", x.block(20, 10), 9);
    }

    private static void blockGoes() {
        PickupYard x = new PickupYard();
        x.block(0, 5);
        x.pass(4);
        c.due("in its last minute", x.count(8), 1);
        x.pass(1);
        c.due("in the minute in which it ends", x.count(8), 0);
        x.block(7, 1);
        x.block(20, 5);
        x.pass(5);
        c.due("the later one stands from where it was told", x.freeFrom(10), 10);
        c.due("and up to there", x.freeFrom(11), 25);
        PickupYard y = Check.yard(1, 10);
        y.wagon(0, 1);
        y.block(2, 3);
        y.block(10, 1);
        y.block(10, 9);
        c.due("pull that waits", y.pull(0, 1), 1);
        c.due("minute", y.count(0), 10);
        c.due("blocks behind a move", y.count(8), 2);
        c.due("the block that began stands", y.freeFrom(1), 19);
    }
}
