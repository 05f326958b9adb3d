/** Promises 6 to 9: pull, push, round, pass. */
public final class MovesTest {
    private static final int MAX = Integer.MAX_VALUE, MIN = Integer.MIN_VALUE;
    private static final Check c = new Check();

    public static void main(String[] args) {
        pull();
        pullAndNeck();
        push();
        pushAndTrack();
        round();
        roundAndLoop();
        waiting();
        timeOfMoves();
        pass();
        c.end("MovesTest");
    }

    private static void row(String what, PickupYard x, int row, int... wagons) {
        for (int place = 0; place < wagons.length; place++) {
            c.due(what + ": at(" + row + ", " + place + ")", x.at(row, place), wagons[place]);
        }
        c.due(what + ": behind the last one", x.at(row, wagons.length), -6);
    }

    private static void pull() {
        PickupYard x = Check.yard(2, 20);
        Check.wagons(x, 0, 1, 1, 1, 1);
        Check.wagons(x, 1, 1, 1);
        c.changesNothing(x, "pull(2, 1)", () -> x.pull(2, 1), -1);
        c.changesNothing(x, "pull(-1, 1)", () -> x.pull(-1, 1), -1);
        c.changesNothing(x, "pull(NONE, 1)", () -> x.pull(-6, 1), -1);
        c.changesNothing(x, "pull(2, 0)", () -> x.pull(2, 0), -1);
        c.changesNothing(x, "pull(0, 0)", () -> x.pull(0, 0), -2);
        c.changesNothing(x, "pull(0, 31)", () -> x.pull(0, 31), -2);
        c.changesNothing(x, "pull(0, MAX)", () -> x.pull(0, MAX), -2);
        c.changesNothing(x, "pull(0, MIN)", () -> x.pull(0, MIN), -2);
        c.changesNothing(x, "pull(0, 5)", () -> x.pull(0, 5), -5);
        c.changesNothing(x, "pull(0, 30)", () -> x.pull(0, 30), -5);
        c.isChange(x, "pull(0, 2)", () -> x.pull(0, 2), 2);
        row("pulled", x, -6, 3, 2);
        row("left", x, 0, 1, 0);
        c.due("couplings, wagons staying behind", x.count(9), 2);
        c.due("minute", x.count(0), 6);
        c.isChange(x, "pull(1, 2)", () -> x.pull(1, 2), 4);
        row("pulled from both", x, -6, 3, 2, 5, 4);
        c.due("couplings, none staying behind", x.count(9), 3);
        c.due("minute", x.count(0), 11);
        c.due("moves", x.count(10), 2);
        c.due("came out of 0", x.ofTrack(0, 3), 2);
        c.due("came out of 1", x.ofTrack(1, 3), 2);
        c.due("pushed into 0", x.ofTrack(0, 4), 0);
        c.due("wagon 3 was pulled", x.ofWagon(3, 5), 1);
        c.due("wagon 1 was not", x.ofWagon(1, 5), 0);
        c.due("no waiting", x.count(11), 0);
        c.changesNothing(x, "pull of an empty track", () -> x.pull(1, 1), -5);
    }

    private static void pullAndNeck() {
        PickupYard x = Check.yard(1, 60);
        Check.wagons(x, 0, 1, 4, 4, 4, 4);
        c.changesNothing(x, "17 into a neck of 16", () -> x.pull(0, 5), -5);
        c.due("16 into a neck of 16", x.pull(0, 4), 4);
        c.changesNothing(x, "one more than the neck", () -> x.pull(0, 1), -5);
        x.set(0, 17);
        c.due("with a longer neck", x.pull(0, 1), 5);
        c.due("length at the engine", x.count(4), 17);
        PickupYard y = Check.yard(1, 4);
        y.wagon(0, 1);
        c.due("the engine's wagons may be longer than the track", y.pull(0, 1), 1);
        for (int i = 0; i < 3; i++) {
            y.wagon(0, 4);
            c.due("pull with more wagons than the track is long", y.pull(0, 1), i + 2);
        }
    }

    private static void push() {
        PickupYard x = Check.yard(3, 20);
        Check.wagons(x, 0, 1, 2, 3, 4);
        x.wagon(1, 2);
        x.pull(0, 4);
        row("at the engine", x, -6, 3, 2, 1, 0);
        c.changesNothing(x, "push(3, 1)", () -> x.push(3, 1), -1);
        c.changesNothing(x, "push(-1, 1)", () -> x.push(-1, 1), -1);
        c.changesNothing(x, "push(NONE, 1)", () -> x.push(-6, 1), -1);
        c.changesNothing(x, "push(3, 0)", () -> x.push(3, 0), -1);
        c.changesNothing(x, "push(1, 0)", () -> x.push(1, 0), -2);
        c.changesNothing(x, "push(1, 31)", () -> x.push(1, 31), -2);
        c.changesNothing(x, "push(1, MAX)", () -> x.push(1, MAX), -2);
        c.changesNothing(x, "push(1, MIN)", () -> x.push(1, MIN), -2);
        c.changesNothing(x, "push(1, 5)", () -> x.push(1, 5), -5);
        c.changesNothing(x, "push(1, 30)", () -> x.push(1, 30), -5);
        int minute = x.count(0);
        int couplings = x.count(9);
        c.isChange(x, "push(1, 2)", () -> x.push(1, 2), 2);
        row("left at the engine", x, -6, 3, 2);
        row("pushed in before the one that was there", x, 1, 1, 0, 4);
        c.due("couplings, wagons being there", x.count(9) - couplings, 2);
        c.due("minutes", x.count(0) - minute, 6);
        c.isChange(x, "push(2, 2)", () -> x.push(2, 2), 0);
        row("pushed into an empty track", x, 2, 3, 2);
        c.due("couplings, none being there", x.count(9) - couplings, 3);
        c.due("minutes", x.count(0) - minute, 11);
        c.due("pushed into 1", x.ofTrack(1, 4), 2);
        c.due("pushed into 2", x.ofTrack(2, 4), 2);
        c.due("came out of 1", x.ofTrack(1, 3), 0);
        c.due("pulled once", x.ofWagon(1, 5), 1);
        c.due("moves", x.count(10), 3);
        c.changesNothing(x, "push of nothing", () -> x.push(2, 1), -5);
    }

    private static void pushAndTrack() {
        PickupYard x = new PickupYard();
        x.track(20);
        x.track(8);
        Check.wagons(x, 0, 3, 2, 4);
        x.wagon(1, 2);
        x.pull(0, 3);
        c.changesNothing(x, "three that do not fit", () -> x.push(1, 3), -5);
        c.due("two that just fit (5 of 6)", x.push(1, 2), 1);
        c.changesNothing(x, "one that does not fit", () -> x.push(1, 1), -5);
        PickupYard y = new PickupYard();
        y.track(20);
        y.track(6);
        Check.wagons(y, 0, 4, 2);
        y.pull(0, 2);
        c.due("wagons that fill the track", y.push(1, 2), 0);
        c.due("ofTrack(1, 2)", y.ofTrack(1, 2), 6);
    }

    private static void round() {
        PickupYard x = Check.yard(1, 20);
        Check.wagons(x, 0, 1, 2, 3);
        c.changesNothing(x, "round without wagons", () -> x.round(), -5);
        x.pull(0, 3);
        int minute = x.count(0);
        int couplings = x.count(9);
        c.isChange(x, "round()", () -> x.round(), minute + 11);
        row("turned", x, -6, 0, 1, 2);
        c.due("couplings", x.count(9) - couplings, 2);
        c.due("moves", x.count(10), 2);
        c.due("not pulled by that", x.ofWagon(1, 5), 1);
        c.due("again", x.round(), minute + 22);
        row("turned back", x, -6, 2, 1, 0);
        Check.wagons(x, 0, 1);
        x.pull(0, 1);
        x.round();
        row("four turned", x, -6, 3, 0, 1, 2);
    }

    private static void roundAndLoop() {
        PickupYard x = Check.yard(1, 20);
        Check.wagons(x, 0, 1, 4, 4, 4);
        x.pull(0, 3);
        c.holds("12 in a loop of 12", x.round() > 0);
        x.pull(0, 1);
        c.changesNothing(x, "13 in a loop of 12", () -> x.round(), -5);
        x.set(1, 13);
        c.holds("13 in a loop of 13", x.round() > 0);
    }

    private static void waiting() {
        PickupYard x = Check.yard(1, 20);
        Check.wagons(x, 0, 1, 1);
        x.block(6, 4);
        x.block(15, 2);
        x.block(17, 3);
        c.due("a move that ends where a block begins", x.pull(0, 1), 1);
        c.due("minute", x.count(0), 6);
        c.due("waited", x.count(11), 0);
        x.undo();
        x.pass(1);
        c.due("a move that would end in a block", x.pull(0, 1), 1);
        c.due("it waits behind all of them", x.count(0), 26);
        c.due("waited", x.count(11), 19);
        c.due("blocks", x.count(8), 0);
        x.block(26, 1);
        c.due("a push waits", x.push(0, 1), 0);
        c.due("minute", x.count(0), 33);
        c.due("waited", x.count(11), 20);
        x.pull(0, 2);
        int minute = x.count(0);
        x.block(minute + 10, 1);
        c.due("going round waits", x.round(), minute + 22);
        c.due("waited", x.count(11), 31);
    }

    private static void timeOfMoves() {
        PickupYard x = Check.yard(2, 20);
        Check.wagons(x, 0, 1, 1);
        x.set(2, 20);
        x.set(3, 10);
        x.set(4, 60);
        x.pull(0, 1);
        c.due("pull: 20 and two couplings of 10", x.count(0), 40);
        x.push(1, 1);
        c.due("push: 20 and one of 10", x.count(0), 70);
        x.pull(1, 1);
        c.due("round: 60 and two of 10", x.round(), 180);
        x.set(3, 0);
        x.set(2, 1);
        x.push(0, 1);
        c.due("push: 1 and two of 0", x.count(0), 181);
        c.due("couplings", x.count(9), 8);
    }

    private static void pass() {
        PickupYard x = new PickupYard();
        c.changesNothing(x, "pass(0)", () -> x.pass(0), -2);
        c.changesNothing(x, "pass(-1)", () -> x.pass(-1), -2);
        c.changesNothing(x, "pass(1000)", () -> x.pass(1000), -2);
        c.changesNothing(x, "pass(MAX)", () -> x.pass(MAX), -2);
        c.changesNothing(x, "pass(MIN)", () -> x.pass(MIN), -2);
        c.isChange(x, "pass(1)", () -> x.pass(1), 1);
        c.isChange(x, "pass(999)", () -> x.pass(999), 1000);
        x.block(1000, 50);
        c.due("pass in a block", x.pass(3), 1003);
        c.due("no move", x.count(10), 0);
        c.due("no waiting", x.count(11), 0);
    }
}
