/** Promises 18 to 24: freeFrom, straight, pulls, wouldLeave, moves, roomFor, buried. */
public final class WhatIfTest {
    private static final int MAX = Integer.MAX_VALUE, MIN = Integer.MIN_VALUE;
    private static final Check c = new Check();

    public static void main(String[] args) {
        freeFrom();
        noSuchTrain();
        straight();
        wagonsAtTheEngine();
        neckIsNotAsked();
        wouldLeave();
        movesOfEachKind();
        movesAsTheyArePossible();
        roomFor();
        buried();
        c.end("WhatIfTest");
    }

    private static void freeFrom() {
        PickupYard x = new PickupYard();
        x.pass(10);
        for (int minutes : new int[] {0, 501, -1, MAX, MIN}) {
            c.changesNothing(x, "freeFrom(" + minutes + ")", () -> x.freeFrom(minutes), -2);
        }
        c.changesNothing(x, "freeFrom(500)", () -> x.freeFrom(500), 10);
        x.block(40, 5);
        x.block(20, 10);
        x.block(28, 7);
        c.changesNothing(x, "up to the first block", () -> x.freeFrom(10), 10);
        c.changesNothing(x, "a minute too long for that", () -> x.freeFrom(11), 45);
        c.due("between two blocks", new PickupYard().freeFrom(1), 0);
        x.pass(12);
        c.changesNothing(x, "in a block", () -> x.freeFrom(1), 35);
        c.changesNothing(x, "just between two blocks", () -> x.freeFrom(5), 35);
        c.changesNothing(x, "too long for that", () -> x.freeFrom(6), 45);
        x.pass(13);
        c.changesNothing(x, "in the minute in which a block ends", () -> x.freeFrom(1), 35);
        manyBlocks();
    }

    private static void manyBlocks() {
        PickupYard x = new PickupYard();
        for (int i = 9; i >= 0; i--) {
            x.block(10 * i, i == 4 ? 6 : 7);
        }
        c.due("3 minutes", x.freeFrom(3), 7);
        c.due("4 minutes", x.freeFrom(4), 46);
        c.due("5 minutes", x.freeFrom(5), 97);
        PickupYard y = new PickupYard();
        y.block(2000, 500);
        c.due("far ahead", y.freeFrom(500), 0);
        y.pass(999);
        y.pass(999);
        c.due("2 minutes before it", y.freeFrom(2), 1998);
        c.due("3 minutes before it", y.freeFrom(3), 2500);
    }

    private static void noSuchTrain() {
        PickupYard x = Check.yard(1, 20);
        Check.wagons(x, 0, 1);
        x.train(1, 10);
        for (int train : new int[] {-1, 1, 8, -6, MAX, MIN}) {
            c.changesNothing(x, "straight(" + train + ")", () -> x.straight(train), -1);
            c.changesNothing(x, "pulls(" + train + ")", () -> x.pulls(train), -1);
            c.changesNothing(x, "wouldLeave(" + train + ")", () -> x.wouldLeave(train), -1);
            c.changesNothing(x, "moves(" + train + ")", () -> x.moves(train), -1);
        }
    }

    /** Asks for the first train; the fewest pulls are -6 where it cannot be got so. */
    private static void got(String what, PickupYard x, int pulls, int minute) {
        c.changesNothing(x, what + ": straight(0)", () -> x.straight(0), pulls < 0 ? 0 : 1);
        c.changesNothing(x, what + ": pulls(0)", () -> x.pulls(0), pulls);
        c.changesNothing(x, what + ": wouldLeave(0)", () -> x.wouldLeave(0), minute);
    }

    private static PickupYard waiting(int... list) {
        PickupYard x = Check.yard(3, 20);
        Check.wagons(x, 0, 1, 1, 1);
        Check.wagons(x, 1, 1, 1, 1);
        x.train(Check.list(list), 100);
        return x;
    }

    private static void straight() {
        got("one", waiting(2), 1, 6);
        got("two", waiting(2, 1), 1, 6);
        got("a whole track", waiting(2, 1, 0), 1, 5);
        got("both tracks", waiting(2, 1, 0, 5, 4, 3), 2, 10);
        got("to and fro", waiting(2, 5, 1, 4, 0, 3), 6, 34);
        got("some, others, some", waiting(2, 1, 5, 0), 3, 17);
        got("below another", waiting(1), -6, -6);
        got("in the other order", waiting(1, 2), -6, -6);
        got("with one left out", waiting(2, 0), -6, -6);
        PickupYard x = Check.yard(8, 20);
        for (int i = 0; i < 8; i++) {
            x.wagon(i, 1);
        }
        x.train(Check.list(7, 6, 5, 4, 3, 2, 1, 0), 100);
        got("eight from eight tracks", x, 8, 40);
        got("the last one is below another", waiting(2, 1, 5, 3), -6, -6);
    }

    private static void wagonsAtTheEngine() {
        PickupYard x = waiting(2, 1, 5);
        x.pull(0, 1);
        got("the first one at the engine", x, 2, 18);
        x.pull(0, 1);
        got("two at the engine", x, 1, 18);
        x.pull(1, 1);
        got("all at the engine", x, 0, 18);
        x.pull(1, 1);
        got("one too many at the engine", x, -6, -6);
        x.push(1, 1);
        x.round();
        got("turned at the engine", x, -6, -6);
        PickupYard y = waiting(2, 1, 5);
        y.pull(1, 1);
        got("a later one at the engine", y, -6, -6);
        PickupYard z = waiting(2, 1, 5);
        z.pull(1, 2);
        got("another one at the engine", z, -6, -6);
        PickupYard w = waiting(2, 1);
        w.pull(0, 2);
        w.push(1, 1);
        got("behind a push", w, 1, 18);
    }

    private static void neckIsNotAsked() {
        PickupYard x = Check.yard(2, 60);
        Check.wagons(x, 0, 4, 4, 4, 4);
        Check.wagons(x, 1, 4);
        x.train(Check.list(3, 2, 1, 0, 4), 100);
        got("20 in a neck of 16", x, 2, 10);
        c.due("moves asks it", x.moves(0), -6);
        x.set(0, 20);
        c.due("moves in a neck of 20", x.moves(0), 2);
    }

    private static void wouldLeave() {
        PickupYard x = waiting(2, 5);
        x.block(10, 3);
        x.block(2, 1);
        got("each pull waits", x, 2, 19);
        x.set(2, 2);
        x.set(3, 0);
        got("quicker", x, 2, 5);
        x.pass(2);
        got("later", x, 2, 7);
        c.due("nothing waited", x.count(11), 0);
        x.pull(0, 1);
        x.pull(1, 1);
        x.block(7, 5);
        got("at once, also in a block", x, 0, 7);
        c.due("and it does leave", x.leave(0), 0);
    }

    private static void moves(String what, PickupYard x, int train, int want) {
        c.changesNothing(x, what + ": moves(" + train + ")", () -> x.moves(train), want);
    }

    private static void movesOfEachKind() {
        PickupYard x = waiting(2, 1);
        moves("a pull", x, 0, 1);
        x.pull(0, 2);
        moves("none", x, 0, 0);
        x.round();
        moves("going round", x, 0, 1);
        x.round();
        x.pull(0, 1);
        moves("a push", x, 0, 1);
        x.pull(1, 1);
        moves("a push of two", x, 0, 1);
        x.round();
        moves("going round and a push", x, 0, 2);
        x.push(2, 1);
        moves("wagons at both ends", x, 0, -6);
        moves("pulling two and going round", waiting(1, 2), 0, 2);
        moves("two pulls", waiting(2, 5), 0, 2);
        moves("three pulls", waiting(2, 5, 1), 0, -6);
        moves("below another", waiting(1), 0, -6);
        PickupYard y = waiting(1);
        y.pull(0, 1);
        moves("a push and a pull", y, 0, 2);
        PickupYard v = waiting(0, 2, 1);
        v.pull(0, 3);
        moves("the first one turned is right, the others are not", v, 0, -6);
        PickupYard z = waiting(2);
        z.pull(0, 1);
        z.pull(1, 1);
        z.round();
        moves("going round, then a push", z, 0, 2);
        PickupYard w = waiting(3, 2);
        w.pull(1, 3);
        w.push(2, 3);
        w.pull(2, 2);
        w.push(1, 2);
        moves("two pulls from where it was pushed", w, 0, 2);
    }

    private static void movesAsTheyArePossible() {
        PickupYard x = Check.yard(1, 20);
        Check.wagons(x, 0, 4, 4, 4, 4);
        x.train(Check.list(3, 2, 1, 0), 100);
        moves("16 in a neck of 16", x, 0, 1);
        x.set(0, 15);
        moves("16 in a neck of 15", x, 0, -6);
        x.pull(0, 2);
        moves("the other 8 in a neck of 15", x, 0, -6);
        x.set(0, 16);
        moves("the other 8 in a neck of 16", x, 0, 1);
        x.strike(0);
        x.train(Check.list(0, 1, 2, 3), 100);
        moves("pulling two and going round, 16 in a loop of 12", x, 0, -6);
        x.set(1, 16);
        moves("pulling two and going round, 16 in a loop of 16", x, 0, 2);
        loopAndTrackAreAsked();
    }

    private static void loopAndTrackAreAsked() {
        PickupYard x = Check.yard(1, 4);
        x.track(8);
        Check.wagons(x, 1, 4, 3);
        x.pull(1, 2);
        Check.wagons(x, 1, 4);
        Check.wagons(x, 0, 2);
        x.train(Check.list(0, 1), 100);
        moves("7 in a loop of 12", x, 0, 1);
        x.set(1, 7);
        moves("7 in a loop of 7", x, 0, 1);
        x.set(1, 6);
        moves("7 in a loop of 6", x, 0, -6);
        x.strike(0);
        x.train(Check.list(1), 100);
        moves("a push of 4 into the track where it fits", x, 0, 1);
        x.wagon(1, 1);
        moves("a push of 4 that fits nowhere", x, 0, -6);
        x.set(0, 4);
        moves("nothing fits, and the neck is full", x, 0, -6);
    }

    private static void roomFor() {
        PickupYard x = new PickupYard();
        x.track(10);
        x.track(6);
        x.track(5);
        x.track(4);
        x.track(60);
        c.changesNothing(x, "no wagons at the engine", () -> x.roomFor(), 0);
        Check.wagons(x, 0, 1, 2, 3);
        x.wagon(4, 4);
        c.changesNothing(x, "still none at the engine", () -> x.roomFor(), 0);
        x.pull(0, 2);
        c.changesNothing(x, "5 to be pushed", () -> x.roomFor(), 0b10111);
        x.wagon(1, 1);
        x.wagon(2, 1);
        c.changesNothing(x, "5 to be pushed, less room", () -> x.roomFor(), 0b10011);
        x.wagon(0, 4);
        x.wagon(0, 1);
        c.changesNothing(x, "a track with 4 left", () -> x.roomFor(), 0b10010);
        PickupYard y = Check.yard(8, 60);
        y.wagon(0, 1);
        y.pull(0, 1);
        c.due("all of eight", y.roomFor(), 255);
    }

    private static void buried() {
        PickupYard x = Check.yard(2, 60);
        Check.wagons(x, 0, 1, 1, 1, 1);
        Check.wagons(x, 1, 1, 1);
        c.changesNothing(x, "no trains", () -> x.buried(), 0);
        x.train(Check.list(2, 3, 5), 100);
        c.changesNothing(x, "at the open ends", () -> x.buried(), 0);
        x.train(Check.list(1), 100);
        c.changesNothing(x, "below another train", () -> x.buried(), 1);
        x.train(Check.list(4), 100);
        c.changesNothing(x, "on both tracks", () -> x.buried(), 2);
        x.strike(0);
        c.changesNothing(x, "below wagons of no train", () -> x.buried(), 2);
        x.train(Check.list(0, 3), 100);
        c.changesNothing(x, "below its own and others", () -> x.buried(), 3);
        x.pull(0, 2);
        c.changesNothing(x, "one that has the open end now", () -> x.buried(), 2);
        x.pull(0, 1);
        c.changesNothing(x, "wagons at the engine are not asked", () -> x.buried(), 1);
        x.pull(1, 2);
        c.changesNothing(x, "none", () -> x.buried(), 0);
        PickupYard y = Check.yard(8, 60);
        Check.wagons(y, 0, 1, 1);
        y.train(Check.list(0), 100);
        c.due("in a yard of eight tracks", y.buried(), 1);
        y.pull(0, 2);
        c.due("at the engine, with eight tracks", y.buried(), 0);
    }
}
