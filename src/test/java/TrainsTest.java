/** Promises 10 to 12: train, strike, leave. */
public final class TrainsTest {
    private static final int MAX = Integer.MAX_VALUE, MIN = Integer.MIN_VALUE;
    private static final Check c = new Check();

    public static void main(String[] args) {
        lists();
        due();
        eightTrains();
        strike();
        leave();
        fines();
        afterLeaving();
        c.end("TrainsTest");
    }

    private static void refused(PickupYard x, String what, long list) {
        c.changesNothing(x, "train of " + what, () -> x.train(list, 100), -2);
    }

    private static void lists() {
        PickupYard x = Check.yard(1, 60);
        for (int i = 0; i < 29; i++) {
            x.wagon(0, 1);
        }
        refused(x, "no wagon", 0);
        refused(x, "a negative number", -1);
        refused(x, "the least number", Long.MIN_VALUE);
        refused(x, "the greatest number", Long.MAX_VALUE);
        refused(x, "a wagon that is not there", Check.list(29));
        refused(x, "a wagon that is not there, later", Check.list(1, 29));
        refused(x, "a wagon twice", Check.list(4, 4));
        refused(x, "a wagon twice, not side by side", Check.list(4, 5, 6, 4));
        refused(x, "a gap at the beginning", 31);
        refused(x, "a gap in the middle", 1 + 31L * 31 * 2);
        refused(x, "nine wagons", Check.list(0, 1, 2, 3, 4, 5, 6, 7, 8));
        refused(x, "eight wagons and a ninth digit", Check.list(0, 1, 2, 3, 4, 5, 6, 7) + 852891037441L);
        refused(x, "eight zeros and a one", 852891037441L);
        refused(x, "a number whose low half is a list", (1L << 32) * 31 * 31 * 31 * 31);
        c.isChange(x, "train of the last wagon", () -> x.train(Check.list(28), 100), 0);
        c.isChange(x, "train of eight", () -> x.train(Check.list(27, 0, 26, 1, 25, 2, 24, 3), 100), 1);
        int[] wagons = {27, 0, 26, 1, 25, 2, 24, 3};
        for (int i = 0; i < 8; i++) {
            c.due("ofTrain(1, 2 + i)", x.ofTrain(1, 2 + i), wagons[i]);
        }
        x.wagon(0, 1);
        x.pull(0, 2);
        c.due("train of wagons at the engine and on a track", x.train(Check.list(29, 10), 100), 2);
        c.changesNothing(x, "a wagon of another train", () -> x.train(Check.list(11, 10), 100), -5);
        c.changesNothing(x, "the same train again", () -> x.train(Check.list(28), 100), -5);
        c.changesNothing(x, "a wagon of another train, too early", () -> x.train(Check.list(10), 5), -2);
    }

    private static void due() {
        PickupYard x = Check.yard(1, 60);
        Check.wagons(x, 0, 1, 1);
        x.pass(50);
        c.changesNothing(x, "due before now", () -> x.train(1, 49), -2);
        c.changesNothing(x, "due too late", () -> x.train(1, 5051), -2);
        c.changesNothing(x, "due MAX", () -> x.train(1, MAX), -2);
        c.changesNothing(x, "due MIN", () -> x.train(1, MIN), -2);
        c.due("due now", x.train(1, 50), 0);
        c.due("due as late as it may be", x.train(2, 5050), 1);
        c.due("ofTrain(0, 1)", x.ofTrain(0, 1), 50);
        c.due("ofTrain(1, 1)", x.ofTrain(1, 1), 5050);
    }

    private static void eightTrains() {
        PickupYard x = Check.yard(1, 60);
        for (int i = 0; i < 9; i++) {
            x.wagon(0, 1);
        }
        for (int i = 0; i < 8; i++) {
            c.due("train " + i, x.train(i + 1, 10), i);
        }
        c.changesNothing(x, "ninth train", () -> x.train(9, 10), -4);
        c.changesNothing(x, "ninth train, wagon of another", () -> x.train(1, 10), -4);
        c.changesNothing(x, "ninth train, no list", () -> x.train(0, 10), -2);
        c.changesNothing(x, "ninth train, too late", () -> x.train(9, 5001), -2);
        x.strike(3);
        c.due("train in its place", x.train(9, 10), 7);
    }

    private static void strike() {
        PickupYard x = Check.yard(1, 60);
        Check.wagons(x, 0, 1, 2, 3, 4);
        x.train(Check.list(0), 10);
        x.train(Check.list(1, 2), 20);
        x.train(Check.list(3), 30);
        c.changesNothing(x, "strike(3)", () -> x.strike(3), -1);
        c.changesNothing(x, "strike(-1)", () -> x.strike(-1), -1);
        c.changesNothing(x, "strike(MAX)", () -> x.strike(MAX), -1);
        c.changesNothing(x, "strike(MIN)", () -> x.strike(MIN), -1);
        c.isChange(x, "strike(0)", () -> x.strike(0), 2);
        c.due("the next has its number", x.ofTrain(0, 1), 20);
        c.due("its wagons", x.ofTrain(0, 3), 2);
        c.due("the last one", x.ofTrain(1, 2), 3);
        c.due("no train waits for wagon 0", x.ofWagon(0, 6), -6);
        c.due("the train of wagon 1", x.ofWagon(1, 6), 0);
        c.due("no train has left", x.count(7), 0);
        c.due("wagon 0 may be listed again", x.train(Check.list(0), 10), 2);
        c.due("strike(1)", x.strike(1), 2);
        c.due("strike(1)", x.strike(1), 1);
        c.due("strike(0)", x.strike(0), 0);
        c.changesNothing(x, "strike(0) of none", () -> x.strike(0), -1);
    }

    private static void leave() {
        PickupYard x = Check.yard(2, 60);
        Check.wagons(x, 0, 1, 2, 3);
        x.wagon(1, 1);
        x.train(Check.list(2, 1), 100);
        x.train(Check.list(0), 100);
        x.train(Check.list(3), 100);
        c.changesNothing(x, "leave(3)", () -> x.leave(3), -1);
        c.changesNothing(x, "leave(-1)", () -> x.leave(-1), -1);
        c.changesNothing(x, "leave(MAX)", () -> x.leave(MAX), -1);
        c.changesNothing(x, "leave without wagons", () -> x.leave(0), -5);
        x.pull(0, 1);
        c.changesNothing(x, "leave with too few", () -> x.leave(0), -5);
        x.pull(0, 1);
        x.round();
        c.changesNothing(x, "leave in the wrong order", () -> x.leave(0), -5);
        x.round();
        x.pull(0, 1);
        c.changesNothing(x, "leave with too many", () -> x.leave(0), -5);
        x.push(0, 1);
        c.changesNothing(x, "another train's wagons", () -> x.leave(1), -5);
        int minute = x.count(0);
        int couplings = x.count(9);
        c.isChange(x, "leave(0)", () -> x.leave(0), 0);
        c.due("it takes no time", x.count(0), minute);
        c.due("no coupling", x.count(9), couplings);
        c.due("none at the engine", x.count(3), 0);
        c.due("wagons that have left", x.count(5), 2);
        c.due("trains that have left", x.count(7), 1);
        c.due("trains that wait", x.count(6), 2);
        c.due("the next has its number", x.ofTrain(0, 2), 0);
        c.due("its track", x.ofWagon(2, 1), -6);
        c.due("its place", x.ofWagon(2, 2), -6);
        c.due("at the engine", x.ofWagon(2, 3), 0);
        c.due("the minute in which it left", x.ofWagon(1, 4), minute);
        c.due("its train", x.ofWagon(1, 6), -6);
        c.due("above it", x.ofWagon(1, 7), -6);
        c.due("its length", x.ofWagon(1, 0), 2);
    }

    private static void fines() {
        PickupYard x = Check.yard(1, 60);
        Check.wagons(x, 0, 1, 1, 1);
        x.train(Check.list(2), 6);
        x.train(Check.list(1), 11);
        x.train(Check.list(0), 10);
        x.pull(0, 1);
        c.due("just in time", x.leave(0), 0);
        c.due("no fine", x.count(12), 0);
        x.pull(0, 1);
        c.due("a minute late", x.leave(0), 1);
        c.due("a fine", x.count(12), 20);
        x.pull(0, 1);
        x.set(5, 1000);
        x.pass(3);
        c.due("ten minutes late", x.leave(0), 10);
        c.due("more fines, of the setting then", x.count(12), 10020);
        c.due("minute", x.count(0), 20);
    }

    private static void twoTrainsLeave() {
        PickupYard x = Check.yard(1, 20);
        Check.wagons(x, 0, 1, 1, 1);
        x.train(Check.list(2, 1), 100);
        x.train(Check.list(0), 100);
        x.pull(0, 2);
        x.leave(0);
        x.pull(0, 1);
        x.leave(0);
        c.due("wagons that have left", x.count(5), 3);
        c.due("trains that have left", x.count(7), 2);
        c.due("the first one left", x.ofWagon(2, 4), 6);
        c.due("the second one left", x.ofWagon(1, 4), 6);
        c.due("the third one left", x.ofWagon(0, 4), 11);
    }

    private static void afterLeaving() {
        PickupYard x = Check.yard(1, 4);
        Check.wagons(x, 0, 2, 2);
        x.train(Check.list(1), 100);
        x.pull(0, 1);
        x.leave(0);
        c.changesNothing(x, "train of a wagon that has left", () -> x.train(Check.list(1), 200), -2);
        c.changesNothing(x, "train of one that is there and one that has left", () -> x.train(Check.list(0, 1), 200), -2);
        c.due("room on the track", x.wagon(0, 2), 2);
        twoTrainsLeave();
        c.due("wagons so far", x.count(2), 3);
    }
}
