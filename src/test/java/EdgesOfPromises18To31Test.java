import java.util.ArrayList;
import java.util.List;
import java.util.function.Supplier;
import java.util.function.ToIntFunction;

/** What promises 18 to 31 name as a boundary, sentence by sentence. */
public final class EdgesOfPromises18To31Test {
    private static final int NO_SUCH = -1, BAD_VALUE = -2, BAD_TEXT = -3, TOO_MANY = -4, NOT_POSSIBLE = -5, NONE = -6;
    private static final Edge e = new Edge();
    private static final Supplier<PickupYard> FRESH = PickupYard::new, BUSY = Edge::busy, FULL = Edge::full;

    public static void main(String[] args) {
        freeFrom();
        noSuchTrain();
        straightFromOneTrack();
        straightWithWagonsAtEngine();
        straightAndNeck();
        pulls();
        wouldLeave();
        wouldLeaveAndBlocks();
        movesZeroToTwo();
        movesOfTwoKinds();
        movesAsTheyArePossible();
        roomFor();
        buried();
        put();
        putTooMany();
        wipe();
        fault();
        carryOut();
        carryOutUpToAnError();
        carryOutIsOneChange();
        undoSixStates();
        undoOfEachChange();
        undoAndWhatIsNoChange();
        undoLeavesPadAndSlots();
        save();
        restore();
        e.end("EdgesOfPromises18To31Test");
    }

    // ---- what if; nothing changes

    private static PickupYard blocked(int minute, int... blocks) {
        PickupYard x = new PickupYard();
        x.pass(minute);
        for (int i = 0; i < blocks.length; i += 2) {
            x.block(blocks[i], blocks[i + 1]);
        }
        return x;
    }

    private static void freeFrom() {
        e.says("Promise 18: minutes 1 to 500");
        e.range("freeFrom(minutes)", FRESH, (x, minutes) -> x.freeFrom(minutes), 1, 500, BAD_VALUE);
        e.range("freeFrom(minutes)", BUSY, (x, minutes) -> x.freeFrom(minutes), 1, 500, BAD_VALUE);
        e.range("freeFrom(minutes)", FULL, (x, minutes) -> x.freeFrom(minutes), 1, 500, BAD_VALUE);
        e.says("Promise 18: the first minute, from the present one on, from which on so many minutes are free of blocks");
        for (int minutes = 1; minutes <= 500; minutes++) {
            e.due("without blocks", blocked(7).freeFrom(minutes), 7);
            e.due("up to a block", blocked(7, 7 + minutes, 1).freeFrom(minutes), 7);
            e.due("a minute short of a block", blocked(7, 6 + minutes, 1).freeFrom(minutes), 7 + minutes);
            e.due("between two blocks", blocked(7, 7, 3, 10 + minutes, 50).freeFrom(minutes), 10);
            e.due("a minute too long for that", blocked(7, 7, 3, 9 + minutes, 50).freeFrom(minutes), 59 + minutes);
        }
        e.due("behind the longest block", blocked(7, 7, 500).freeFrom(500), 507);
        e.due("before the latest block", blocked(7, 2007, 500).freeFrom(500), 7);
        e.due("behind ten, told in no order", blocked(7, 1507, 500, 507, 500, 7, 500, 1007, 500, 2000, 500, 1999, 1, 30, 9, 31, 9,
            32, 9, 33, 9).freeFrom(1), 2500);
    }

    private static void noSuchTrain() {
        e.says("Promises 19 to 22: NO_SUCH if there is no such train");
        e.range("straight(train)", BUSY, (x, train) -> x.straight(train), 0, 1, NO_SUCH);
        e.range("straight(train), full", FULL, (x, train) -> x.straight(train), 0, 7, NO_SUCH);
        e.range("straight(train), none", FRESH, (x, train) -> x.straight(train), 0, -1, NO_SUCH);
        e.range("pulls(train)", BUSY, (x, train) -> x.pulls(train), 0, 1, NO_SUCH);
        e.range("pulls(train), full", FULL, (x, train) -> x.pulls(train), 0, 7, NO_SUCH);
        e.range("pulls(train), none", FRESH, (x, train) -> x.pulls(train), 0, -1, NO_SUCH);
        e.range("wouldLeave(train)", BUSY, (x, train) -> x.wouldLeave(train), 0, 1, NO_SUCH);
        e.range("wouldLeave(train), full", FULL, (x, train) -> x.wouldLeave(train), 0, 7, NO_SUCH);
        e.range("wouldLeave(train), none", FRESH, (x, train) -> x.wouldLeave(train), 0, -1, NO_SUCH);
        e.range("moves(train)", BUSY, (x, train) -> x.moves(train), 0, 1, NO_SUCH);
        e.range("moves(train), full", FULL, (x, train) -> x.moves(train), 0, 7, NO_SUCH);
        e.range("moves(train), none", FRESH, (x, train) -> x.moves(train), 0, -1, NO_SUCH);
    }

    /** Track 0: 9 to 0 from its open end on; track 1: 12, 11, 10; track 2 is empty; a train waits for a list. */
    private static PickupYard waiting(int... list) {
        PickupYard x = Check.yard(3, 20);
        for (int i = 0; i < 13; i++) {
            x.wagon(i < 10 ? 0 : 1, 1);
        }
        x.train(Check.list(list), 100);
        return x;
    }

    /** What straight, pulls and wouldLeave answer for train 0; pulls of NONE mean that it cannot be got. */
    private static void got(String what, PickupYard x, int pulls, int minute) {
        e.due(what + ": straight(0)", x.straight(0), pulls == NONE ? 0 : 1);
        e.due(what + ": pulls(0)", x.pulls(0), pulls);
        e.due(what + ": wouldLeave(0)", x.wouldLeave(0), pulls == NONE ? NONE : minute);
    }

    private static int[] down(int from, int many) {
        int[] list = new int[many];
        for (int i = 0; i < many; i++) {
            list[i] = from - i;
        }
        return list;
    }

    private static void straightFromOneTrack() {
        e.says("Promise 19: each pull takes the next wagon, or more next ones, from an open end");
        for (int many = 1; many <= 8; many++) {
            got("the first " + many + " of a track", waiting(down(9, many)), 1, 6);
            got(many + " below the open end", waiting(down(8, many)), NONE, NONE);
            if (many > 1) {
                int[] turned = down(9, many);
                turned[many - 2] = 10 - many;
                turned[many - 1] = 11 - many;
                got("the last two of " + many + " turned", waiting(turned), NONE, NONE);
                int[] gap = down(9, many);
                gap[many - 1]--;
                got("one left out before the last of " + many, waiting(gap), NONE, NONE);
            }
        }
        got("all of a track", waiting(12, 11, 10), 1, 5);
        got("the wagon at the buffer", waiting(10), NONE, NONE);
        got("all of a track, and the first of another", waiting(12, 11, 10, 9), 2, 11);
        got("the first of a track, and the last of another", waiting(9, 10), NONE, NONE);
    }

    private static void straightWithWagonsAtEngine() {
        e.says("Promise 19: with the wagons that are at the engine now as its first ones");
        for (int many = 0; many <= 8; many++) {
            for (int there = 0; there <= many; there++) {
                if (many > 0) {
                    PickupYard x = waiting(down(9, many));
                    if (there > 0) {
                        x.pull(0, there);
                    }
                    int minute = x.count(0);
                    got(there + " of " + many + " at the engine", x, there == many ? 0 : 1, there == many ? minute : minute + 6);
                }
            }
            PickupYard y = waiting(down(9, Math.max(1, many)));
            y.pull(0, Math.max(1, many) + 1);
            got("one too many at the engine", y, NONE, NONE);
        }
        PickupYard x = waiting(9, 8, 12);
        x.pull(1, 1);
        got("the last one at the engine", x, NONE, NONE);
        PickupYard y = waiting(9, 8, 12);
        y.pull(0, 2);
        y.round();
        got("the first ones turned at the engine", y, NONE, NONE);
        PickupYard z = waiting(9, 8, 12);
        z.pull(0, 1);
        z.pull(1, 1);
        got("one at the engine that comes later", z, NONE, NONE);
        PickupYard w = waiting(9);
        w.pull(0, 1);
        w.push(2, 1);
        got("pushed again", w, 1, w.count(0) + 5);
    }

    private static void straightAndNeck() {
        e.says("Promise 19: the neck is not asked");
        for (int neck = 4; neck <= 33; neck++) {
            PickupYard x = Check.yard(1, 60);
            for (int i = 0; i < 9; i++) {
                x.wagon(0, 4);
            }
            x.train(Check.list(down(8, 8)), 100);
            x.set(0, neck);
            got("32 in a neck of " + neck, x, 1, 6);
            e.due("moves(0), which asks it", x.moves(0), neck >= 32 ? 1 : NONE);
        }
    }

    private static void pulls() {
        e.says("Promise 20: one pull takes next wagons of the list that stand behind one another on one track");
        got("two tracks by turns", waiting(9, 12, 8, 11, 7, 10), 6, 6 + 6 + 6 + 6 + 6 + 5);
        got("two and two", waiting(9, 8, 12, 11), 2, 12);
        got("two, one, two", waiting(9, 8, 12, 7, 6), 3, 18);
        for (int many = 1; many <= 8; many++) {
            PickupYard x = Check.yard(8, 20);
            int[] list = new int[many];
            for (int i = 0; i < 8; i++) {
                x.wagon(i, 1);
                if (i < many) {
                    list[i] = i;
                }
            }
            x.train(Check.list(list), 100);
            got(many + " from as many tracks", x, many, 5 * many);
        }
        got("neighbours on two tracks", waiting(9, 12), 2, 12);
        e.says("Promise 20: NONE if it cannot be got so");
        got("seven of eight can be got", waiting(9, 8, 7, 6, 5, 4, 3, 1), NONE, NONE);
        got("one of eight can be got", waiting(9, 7, 6, 5, 4, 3, 2, 1), NONE, NONE);
        PickupYard y = waiting(2);
        y.strike(0);
        y.train(Check.list(9), 100);
        y.train(Check.list(8), 100);
        e.due("the first train", y.pulls(0), 1);
        e.due("the second one, below it", y.pulls(1), NONE);
    }

    private static void wouldLeave() {
        e.says("Promise 21: got by the fewest pulls, one after the other, and left at once");
        for (int couple = 0; couple <= 10; couple += 10) {
            for (int move = 1; move <= 20; move += 19) {
                PickupYard x = waiting(9, 8, 12, 11, 10);
                x.set(2, move);
                x.set(3, couple);
                x.pass(50);
                got("MOVE " + move + ", COUPLE " + couple, x, 2, 50 + 2 * move + 3 * couple);
                x.pull(0, 2);
                x.pull(1, 3);
                e.due("count(0) behind those", x.count(0), 50 + 2 * move + 3 * couple);
                got("all at the engine", x, 0, x.count(0));
            }
        }
        PickupYard y = waiting(9);
        y.set(5, 0);
        y.pass(999);
        got("a train that is late", y, 1, 999 + 6);
    }

    private static void leaves(String what, int due, int... blocks) {
        PickupYard x = waiting(9, 12);
        x.pass(10);
        for (int i = 0; i < blocks.length; i += 2) {
            x.block(blocks[i], blocks[i + 1]);
        }
        got(what, x, 2, due);
        x.pull(0, 1);
        x.pull(1, 1);
        e.due(what + ": the minute of those pulls", x.count(0), due);
    }

    private static void wouldLeaveAndBlocks() {
        e.says("Promise 21 and Moves: each pull begins in the first minute from which on it is free of blocks");
        leaves("no block", 22);
        leaves("a block behind both", 22, 22, 5);
        leaves("a block in the last minute", 33, 21, 6);
        leaves("a block of that minute alone", 28, 21, 1);
        leaves("a block between both", 28, 16, 6);
        leaves("a block in the first one's last minute", 33, 15, 6);
        leaves("a block at the beginning", 27, 10, 5);
        leaves("a gap for one", 27, 10, 2, 18, 3);
        leaves("a gap for both", 24, 10, 2, 24, 9);
        leaves("a gap that is a minute too short for both", 39, 10, 2, 23, 10);
        PickupYard x = waiting(9);
        x.pull(0, 1);
        x.block(6, 9);
        got("no pull, in a block", x, 0, 6);
        PickupYard y = waiting(9);
        y.block(0, 500);
        y.block(500, 500);
        got("behind two longest blocks", y, 1, 1006);
    }

    private static void moves(String what, PickupYard x, int want) {
        e.due(what + ": moves(0)", x.moves(0), want);
    }

    private static void movesZeroToTwo() {
        e.says("Promise 22: returns 0, 1 or 2; NONE if more than 2 are needed, or it is not possible");
        PickupYard x = waiting(9, 12, 8);
        moves("three pulls", x, NONE);
        x.pull(0, 1);
        moves("two pulls", x, 2);
        x.pull(1, 1);
        moves("one pull", x, 1);
        x.pull(0, 1);
        moves("none", x, 0);
        x.pull(0, 1);
        moves("one push", x, 1);
        PickupYard y = Check.yard(1, 4);
        Check.wagons(y, 0, 4);
        y.train(1, 100);
        y.set(0, 4);
        moves("one pull of one wagon", y, 1);
        y.pull(0, 1);
        moves("a list of one wagon", y, 0);
        y.strike(0);
        y.wagon(0, 4);
        y.train(Check.list(1), 100);
        moves("another one is at the engine, and stays there", y, NONE);
        PickupYard z = waiting(9, 11);
        z.pull(1, 1);
        moves("two are too many at the engine and in a track", z, NONE);
    }

    /** Wagons at the engine after a pull of so many of track 0 of a yard in which a list waits. */
    private static PickupYard pulled(int many, int... list) {
        PickupYard x = waiting(list);
        x.pull(0, many);
        return x;
    }

    private static void movesOfTwoKinds() {
        e.says("Promise 22: pulls, pushes, going round");
        moves("a pull", waiting(9, 8, 7), 1);
        moves("a push", pulled(2, 9), 1);
        moves("a push of 7", pulled(8, 9), 1);
        moves("going round", pulled(2, 8, 9), 1);
        moves("going round one wagon is never needed", pulled(1, 9), 0);
        moves("pull, pull", waiting(9, 12), 2);
        moves("pull, round", waiting(8, 9), 2);
        moves("pull of eight, round", waiting(2, 3, 4, 5, 6, 7, 8, 9), 2);
        moves("pull of all of a track, round", waiting(10, 11, 12), 2);
        moves("pull of all of a track, pull", waiting(12, 11, 10, 9), 2);
        moves("pull, pull of all of a track", waiting(9, 12, 11, 10), 2);
        moves("push, pull", pulled(2, 9, 12), 2);
        moves("push of all, pull", pulled(1, 12), 2);
        moves("push, round", pulled(3, 8, 9), 2);
        moves("round, pull", pulled(2, 8, 9, 12), 2);
        moves("round, push", pulled(2, 8), 2);
        moves("push, pull of what was pushed", pulled(2, 8, 7), NONE);
        PickupYard x = new PickupYard();
        x.track(20);
        x.track(4);
        x.track(4);
        Check.wagons(x, 0, 4, 3, 4, 2);
        x.train(Check.list(3), 100);
        x.pull(0, 3);
        x.wagon(0, 4);
        x.wagon(0, 4);
        x.wagon(0, 4);
        moves("push, push", x, 2);
        e.due("as all does not fit on one track", x.roomFor(), 0);
        PickupYard y = pulled(2, 8, 12);
        moves("round, push, pull", y, NONE);
        moves("pull, round, push", waiting(8), NONE);
    }

    private static void movesAsTheyArePossible() {
        e.says("Promise 22: as they are possible");
        for (int neck = 4; neck <= 12; neck++) {
            PickupYard one = waiting(9, 8, 7, 6, 5, 4);
            one.set(0, neck);
            moves("a pull of 6 in a neck of " + neck, one, neck >= 6 ? 1 : NONE);
            PickupYard two = waiting(9, 8, 7, 12, 11, 10);
            two.set(0, neck);
            moves("pulls of 3 and 3 in a neck of " + neck, two, neck >= 6 ? 2 : NONE);
        }
        for (int loop = 2; loop <= 8; loop++) {
            PickupYard one = pulled(5, 5, 6, 7, 8, 9);
            one.set(1, loop);
            moves("round of 5 in a loop of " + loop, one, loop >= 5 ? 1 : NONE);
            PickupYard after = pulled(5, 6, 7, 8, 9);
            after.set(1, loop);
            moves("a push and a round of 4 in a loop of " + loop, after, loop >= 4 ? 2 : NONE);
            PickupYard before = pulled(5, 5, 6);
            before.set(1, loop);
            moves("a round of 5 and a push in a loop of " + loop, before, loop >= 5 ? 2 : NONE);
            PickupYard pull = waiting(6, 7, 8, 9);
            pull.set(1, loop);
            moves("a pull of 4 and a round in a loop of " + loop, pull, loop >= 4 ? 2 : NONE);
        }
        for (int length = 4; length <= 9; length++) {
            for (int there = 0; there <= 4; there++) {
                PickupYard x = new PickupYard();
                x.track(4);
                x.track(length);
                Check.wagons(x, 0, 3, 1);
                x.pull(0, 2);
                Check.wagons(x, 0, 4);
                if (there > 0) {
                    x.wagon(1, there);
                }
                x.train(Check.list(1), 100);
                moves("a push of 3 to " + there + " of " + length, x, there + 3 <= length ? 1 : NONE);
            }
        }
    }

    private static void roomFor() {
        e.says("Promise 23: the set of tracks; 0 if there are no wagons at the engine");
        e.asks("roomFor(), no tracks", FRESH, x -> x.roomFor(), 0);
        e.asks("roomFor(), empty tracks", () -> Check.yard(8, 60), x -> x.roomFor(), 0);
        for (int track = 0; track < 8; track++) {
            PickupYard x = new PickupYard();
            for (int i = 0; i < 8; i++) {
                x.track(i == track ? 5 : 4);
            }
            Check.wagons(x, 0, 1);
            x.pull(0, 1);
            Check.wagons(x, 0, 3);
            x.pull(0, 1);
            e.due("room for 4 in all", x.roomFor(), 255);
            x.wagon(0, 1);
            x.pull(0, 1);
            e.due("room for 5 in track " + track, x.roomFor(), 1 << track);
        }
        e.says("Promise 23: into which all wagons at the engine could be pushed at once");
        for (int together = 1; together <= 12; together++) {
            PickupYard x = Check.yard(1, 60);
            x.track(8);
            x.track(8);
            x.wagon(2, 3);
            for (int i = 0; i < together; i++) {
                x.wagon(0, 1);
            }
            x.pull(0, together);
            e.due("room for " + together, x.roomFor(), 1 + (together <= 8 ? 2 : 0) + (together <= 5 ? 4 : 0));
            for (int track = 0; track < 3; track++) {
                int answer = x.push(track, together);
                e.due("push(" + track + ", " + together + ")", answer, track == 0 || together <= (track == 1 ? 8 : 5) ? 0 : -5);
                if (answer == 0) {
                    x.undo();
                }
            }
        }
    }

    private static void buried() {
        e.says("Promise 24: wagons of all trains that stand deeper on their tracks than another one that is not of the same train");
        e.asks("buried(), nothing there", FRESH, x -> x.buried(), 0);
        for (int place = 0; place <= 9; place++) {
            e.due("a wagon at place " + place, waiting(9 - place).buried(), place > 0 ? 1 : 0);
        }
        e.due("two side by side at the open end", waiting(9, 8).buried(), 0);
        e.due("eight side by side at the open end", waiting(2, 3, 4, 5, 6, 7, 8, 9).buried(), 0);
        e.due("eight side by side below one", waiting(1, 2, 3, 4, 5, 6, 7, 8).buried(), 8);
        e.due("one at the open end, one below another", waiting(9, 7).buried(), 1);
        e.due("at both open ends", waiting(9, 12).buried(), 0);
        e.due("deepest on both tracks", waiting(0, 10).buried(), 2);
        PickupYard x = waiting(9, 7);
        x.train(Check.list(8), 100);
        e.due("a wagon of another train above, and one below", x.buried(), 2);
        x.train(Check.list(12, 11), 100);
        e.due("a third train at the open end", x.buried(), 2);
        x.train(Check.list(6, 5, 4, 3), 100);
        e.due("a fourth one below all", x.buried(), 6);
        x.pull(0, 1);
        e.due("at the engine", x.buried(), 5);
        x.strike(0);
        e.due("one train struck", x.buried(), 4);
        PickupYard y = Check.yard(1, 60);
        for (int i = 0; i < 30; i++) {
            y.wagon(0, 1);
        }
        for (int i = 0; i < 7; i++) {
            y.train(Check.list(4 * i, 4 * i + 1, 4 * i + 2, 4 * i + 3), 100);
        }
        e.due("28 below two of none", y.buried(), 28);
        y.train(Check.list(29), 100);
        e.due("and one at the open end", y.buried(), 28);
    }

    // ---- texts

    private static void put() {
        e.says("Promise 25: 1 to 8 characters; BAD_VALUE if a code is not 33 to 126, or a bit above 8 bits that are 0 is not 0");
        e.refuses("put(0)", BUSY, x -> x.put(0), BAD_VALUE);
        for (int many = 1; many <= 8; many++) {
            for (int place = 0; place < many; place++) {
                for (int code = 0; code <= 255; code++) {
                    putOne(many, place, code);
                }
            }
        }
        for (int zero = 1; zero < 8; zero++) {
            for (int bit = 8 * zero + 8; bit < 64; bit++) {
                long told = 'r' + (1L << bit);
                e.due("put(" + told + ")", new PickupYard().put(told), BAD_VALUE);
            }
        }
        for (long told : new long[] {-1, Long.MIN_VALUE, Long.MAX_VALUE, Long.MIN_VALUE + 'r', 256, 'r' << 8, 1, 32, 127, 128, 255}) {
            e.refuses("put(" + told + ")", BUSY, x -> x.put(told), BAD_VALUE);
        }
        e.says("Promise 25: its lowest 8 bits are the last character");
        PickupYard x = Check.yard(1, 20);
        x.put('w' * 65536L + '1' * 256L + '2');
        e.due("fault() of w12", x.fault(), NONE);
        x.put(';' * 256L + 'w');
        e.due("fault() of w12;w", x.fault(), 5);
        x.put('3');
        e.due("carryOut() of w12;w3", x.carryOut(), 2);
        e.due("count(0)", x.count(0), 15);
    }

    /** Puts so many characters, of which one has this code. */
    private static void putOne(int many, int place, int code) {
        long told = 0;
        for (int i = 0; i < many; i++) {
            told = told << 8 | (i == place ? code : 'r');
        }
        // A first character of code 0 is none.
        int due = code >= 33 && code <= 126 ? many : code == 0 && place == 0 && many > 1 ? many - 1 : BAD_VALUE;
        PickupYard x = new PickupYard();
        e.due("put(" + told + ")", x.put(told), due);
        e.due("count(13)", x.count(13), Math.max(0, due));
    }

    private static PickupYard padOf(int length) {
        PickupYard x = new PickupYard();
        for (int i = 0; i < length; i++) {
            x.put(i % 2 == 0 ? 'r' : ';');
        }
        return x;
    }

    private static void putTooMany() {
        e.says("Promise 25: returns the length of the pad then; TOO_MANY if the pad would be longer than 80");
        String eight = ";r;r;r;r";
        for (int length = 0; length <= 80; length++) {
            for (int many = 1; many <= 8; many++) {
                PickupYard x = padOf(length);
                int due = length + many <= 80 ? length + many : TOO_MANY;
                e.due(many + " to " + length, x.put(Check.characters(eight.substring(0, many))), due);
                e.due("count(13)", x.count(13), due > 0 ? due : length);
            }
        }
        e.refuses("1 to 80", () -> padOf(80), x -> x.put('r'), TOO_MANY);
        e.refuses("2 to 79", () -> padOf(79), x -> x.put(Check.characters(";r")), TOO_MANY);
        e.refuses("8 to 73", () -> padOf(73), x -> x.put(Check.characters(eight)), TOO_MANY);
    }

    private static void wipe() {
        e.says("Promise 26: empties the pad, and returns the length that it had");
        for (int length = 0; length <= 80; length++) {
            PickupYard x = padOf(length);
            e.due("wipe()", x.wipe(), length);
            e.due("count(13)", x.count(13), 0);
            e.due("fault()", x.fault(), 0);
            e.due("wipe() again", x.wipe(), 0);
            e.due("put behind it", x.put('r'), 1);
            e.due("fault() of that alone", x.fault(), NONE);
        }
        PickupYard y = Edge.busy();
        String seen = Check.seenButFor13And14(y);
        y.wipe();
        e.holds("nothing else changes", seen.equals(Check.seenButFor13And14(y)));
        e.due("it is no change", y.count(14), 6);
    }

    private static PickupYard padOf(String text) {
        PickupYard x = Edge.busy();
        x.wipe();
        Check.write(x, text);
        return x;
    }

    private static void fault() {
        e.says("Promise 27: returns the fault of the pad, NONE if there is none");
        e.asks("fault() of no text", () -> padOf(""), x -> x.fault(), 0);
        e.asks("fault() of pB1", () -> padOf("pB1"), x -> x.fault(), NONE);
        e.asks("fault() of pB1;", () -> padOf("pB1;"), x -> x.fault(), 4);
        e.asks("fault() of pB1;;", () -> padOf("pB1;;"), x -> x.fault(), 4);
        e.asks("fault() of x", () -> padOf("x"), x -> x.fault(), 0);
        e.asks("fault() of pB1;w5;x", () -> padOf("pB1;w5;x"), x -> x.fault(), 7);
        e.asks("fault() of the first of two", () -> padOf("pI1;w100"), x -> x.fault(), 1);
        e.asks("fault() of a track that is not there", () -> padOf("pH1"), x -> x.fault(), NONE);
        e.asks("fault() of 80 without one", FULL, x -> x.fault(), NONE);
    }

    private static void carryOut() {
        e.says("Promise 28: BAD_TEXT if the pad has a fault (then it stays)");
        for (String text : new String[] {"", "w", "w5;", "pB1;w", "x", "w5;x", "w5;pI1", "w100", "w05", "w5!"}) {
            e.refuses("carryOut() of " + text, () -> padOf(text), x -> x.carryOut(), BAD_TEXT);
        }
        PickupYard x = padOf("w5;pB");
        x.carryOut();
        x.put('1');
        e.due("the text that stayed, made whole", x.carryOut(), 2);
        e.says("Promise 28: carries the orders of the pad out, one after the other, and empties the pad");
        for (int many = 1; many <= 27; many++) {
            PickupYard y = padOf("w1" + ";w2".repeat(many - 1));
            int minute = y.count(0);
            e.due("carryOut() of " + many, y.carryOut(), many);
            e.due("count(0)", y.count(0), minute + 1 + 2 * (many - 1));
            e.due("count(13)", y.count(13), 0);
            e.due("fault()", y.fault(), 0);
            e.due("carryOut() again", y.carryOut(), BAD_TEXT);
        }
        PickupYard z = padOf("r" + ";r".repeat(39));
        e.due("carryOut() of 40", z.carryOut(), 40);
        e.due("count(10)", z.count(10), 43);
    }

    private static void carryOutUpToAnError() {
        e.says("Promise 28: up to the first one that returns an error; returns how many orders were carried out");
        String[] failing = {"pA0", "pA31", "pA99", "pA4", "pD1", "pC1", "qA0", "qA3", "qD1", "w0", "t2", "t1", "t99"};
        for (String one : failing) {
            for (int before = 0; before <= 4; before++) {
                PickupYard x = padOf("w3;".repeat(before) + one + ";w50");
                int minute = x.count(0);
                e.due("carryOut(), " + one + " behind " + before, x.carryOut(), before);
                e.due("count(0)", x.count(0), minute + 3 * before);
                e.due("count(13), empty", x.count(13), 0);
            }
        }
        PickupYard x = padOf("t0;r;w50");
        e.due("carryOut(), going round without wagons", x.carryOut(), 1);
        e.due("it has left", x.count(7), 2);
        PickupYard y = padOf("pB1;qC9;w50");
        e.due("carryOut(), the last but one fails", y.carryOut(), 1);
        e.due("count(3)", y.count(3), 3);
        PickupYard z = padOf("w50;qC9");
        e.due("carryOut(), the last one fails", z.carryOut(), 1);
        e.due("count(0)", z.count(0), 73);
        e.says("Promise 28: an order that answers 0 is no error");
        PickupYard w = waiting(9);
        Check.write(w, "pA1;t0;w1");
        e.due("a train that is in time", w.carryOut(), 3);
        PickupYard v = padOf("qC2;w1");
        e.due("a push of all", v.carryOut(), 2);
    }

    private static void carryOutIsOneChange() {
        e.says("Promise 28: this is a change (one, with all of them; also if none is carried out)");
        for (String text : new String[] {"w1", "w1;w2;w3", "pB1;qC3;r;w9", "w0", "pA0;w5", "qD1", "r" + ";r".repeat(39)}) {
            PickupYard x = padOf(text);
            while (x.count(14) > 2) {
                x.undo();
            }
            String seen = Check.seenButFor13And14(x);
            x.carryOut();
            e.due("count(14) behind " + text, x.count(14), 3);
            e.due("undo()", x.undo(), 2);
            e.holds("all of it is undone", seen.equals(Check.seenButFor13And14(x)));
        }
        PickupYard y = new PickupYard();
        y.put('w' * 256 + '0');
        e.due("carryOut() as the first change, of none", y.carryOut(), 0);
        e.due("count(14)", y.count(14), 1);
        e.due("undo()", y.undo(), 0);
    }

    // ---- undo, saving

    private static void undoSixStates() {
        e.says("Promise 29: a history of at most 6 states; when one more is recorded, the oldest one is dropped");
        for (int changes = 0; changes <= 15; changes++) {
            PickupYard x = new PickupYard();
            for (int i = 0; i < changes; i++) {
                x.pass(10);
            }
            int most = Math.min(6, changes);
            e.due("count(14) behind " + changes, x.count(14), most);
            for (int left = most - 1; left >= 0; left--) {
                e.due("undo()", x.undo(), left);
                e.due("count(14)", x.count(14), left);
                e.due("count(0)", x.count(0), 10 * (changes - most + left));
            }
            int all = changes;
            e.refuses("undo() of none", () -> undone(all), y -> y.undo(), NOT_POSSIBLE);
        }
        e.says("Promise 29: undo is no change, and what it undid is gone");
        PickupYard x = undone(8);
        e.due("count(0)", x.count(0), 20);
        x.pass(1);
        x.pass(2);
        e.due("count(14)", x.count(14), 2);
        e.due("undo()", x.undo(), 1);
        e.due("count(0)", x.count(0), 21);
        x.pass(4);
        e.due("undo()", x.undo(), 1);
        e.due("undo()", x.undo(), 0);
        e.due("count(0)", x.count(0), 20);
    }

    private static PickupYard undone(int changes) {
        PickupYard x = new PickupYard();
        for (int i = 0; i < changes; i++) {
            x.pass(10);
        }
        for (int i = 0; i < 6; i++) {
            x.undo();
        }
        return x;
    }

    private static List<ToIntFunction<PickupYard>> changes() {
        return List.of(x -> x.set(4, 11), x -> x.track(9), x -> x.wagon(2, 4), x -> x.block(60, 6), x -> x.pull(1, 1),
            x -> x.push(2, 1), x -> x.round(), x -> x.pass(100), x -> x.train(3, 99), x -> x.strike(1), x -> x.leave(0),
            x -> x.carryOut(), x -> x.restore(0), x -> x.set(4, 9), x -> x.restore(1));
    }

    private static void undoOfEachChange() {
        e.says("Promise 29: each method that is a change, and returns no error, records the state before it");
        List<ToIntFunction<PickupYard>> changes = changes();
        for (int i = 0; i < changes.size(); i++) {
            for (int undone = 0; undone <= 6; undone += 3) {
                PickupYard x = before(undone);
                e.holds("change " + i + " is none that fails", changes.get(i).applyAsInt(x) >= 0);
                e.due("count(14) behind change " + i, x.count(14), Math.min(6, 6 - undone + 1));
                PickupYard y = before(undone);
                e.due("undo() of change " + i, x.undo(), Math.min(5, 6 - undone));
                e.holds("all is as it was", Check.seenButFor13And14(y).equals(Check.seenButFor13And14(x)));
                for (int left = Math.min(5, 6 - undone) - 1; left >= 0; left--) {
                    x.undo();
                    y.undo();
                    e.holds("and before", Check.seenButFor13And14(y).equals(Check.seenButFor13And14(x)));
                }
            }
        }
        e.says("Promise 29: also if nothing is different then");
        PickupYard x = new PickupYard();
        e.due("set to what it is", x.set(0, 16), 16);
        e.due("count(14)", x.count(14), 1);
        x.save(0);
        e.due("restore of what is there", x.restore(0), 0);
        e.due("count(14)", x.count(14), 2);
        x.put('w' * 256 + '0');
        e.due("carryOut of nothing", x.carryOut(), 0);
        e.due("count(14)", x.count(14), 3);
    }

    /** The busy yard with so many states fewer to be undone: of 6, those are dropped and the ones behind them undone. */
    private static PickupYard before(int undone) {
        PickupYard x = Edge.busy();
        for (int i = 0; i < undone; i++) {
            x.pass(1);
        }
        for (int i = 0; i < undone; i++) {
            x.undo();
        }
        return x;
    }

    private static void undoAndWhatIsNoChange() {
        e.says("Promise 29: what is no change, or returns an error, records nothing");
        List<ToIntFunction<PickupYard>> calls = new ArrayList<>(List.of(x -> x.save(0), x -> x.save(1), x -> x.put('r'),
            x -> x.wipe(), x -> x.fault(), x -> x.roomFor(), x -> x.buried(), x -> x.freeFrom(9), x -> x.straight(0),
            x -> x.pulls(0), x -> x.wouldLeave(0), x -> x.moves(0), x -> x.ofTrack(0, 0), x -> x.at(0, 0), x -> x.ofWagon(0, 0),
            x -> x.ofTrain(0, 0), x -> x.count(0), x -> x.set(6, 1), x -> x.track(3), x -> x.wagon(0, 5), x -> x.block(0, 0),
            x -> x.pull(0, 0), x -> x.push(0, 0), x -> x.pass(0), x -> x.train(0, 0), x -> x.strike(9), x -> x.leave(9),
            x -> x.restore(2), x -> x.save(2)));
        for (ToIntFunction<PickupYard> call : calls) {
            PickupYard x = Edge.busy();
            x.undo();
            call.applyAsInt(x);
            e.due("count(14)", x.count(14), 5);
            PickupYard y = Edge.busy();
            y.undo();
            for (int left = 4; left >= 0; left--) {
                e.due("undo()", x.undo(), left);
                y.undo();
                e.holds("the states are as they were", Check.seenButFor13And14(x).equals(Check.seenButFor13And14(y)));
            }
        }
        PickupYard round = Edge.withoutWagonsAtEngine();
        round.undo();
        round.leave(0);
        round.round();
        e.due("count(14) behind a round() that fails", round.count(14), 6);
        PickupYard text = padOf("x");
        text.undo();
        text.carryOut();
        e.due("count(14) behind a carryOut() that fails", text.count(14), 5);
    }

    private static void undoLeavesPadAndSlots() {
        e.says("Promise 29: everything except the pad, the slots and the history is as it was before it");
        PickupYard x = new PickupYard();
        x.pass(3);
        x.put('r');
        x.save(0);
        x.pass(4);
        x.put(';');
        x.save(1);
        x.undo();
        x.undo();
        e.due("count(0)", x.count(0), 0);
        e.due("count(13)", x.count(13), 2);
        e.due("fault()", x.fault(), 2);
        e.due("restore(0)", x.restore(0), 3);
        e.due("restore(1)", x.restore(1), 7);
        PickupYard y = padOf("pB1");
        y.carryOut();
        y.undo();
        e.due("count(13): the pad stays empty", y.count(13), 0);
        PickupYard z = new PickupYard();
        z.pass(1);
        z.save(0);
        z.pass(1);
        z.restore(0);
        z.save(0);
        z.undo();
        e.due("count(0)", z.count(0), 2);
        e.due("restore(0)", z.restore(0), 1);
    }

    private static void save() {
        e.says("Promise 30: BAD_VALUE if there is no such slot (0 or 1)");
        e.range("save(slot)", FRESH, (x, slot) -> x.save(slot), 0, 1, BAD_VALUE);
        e.range("save(slot)", BUSY, (x, slot) -> x.save(slot), 0, 1, BAD_VALUE);
        e.says("Promise 30: returns the minute");
        e.due("save(0)", new PickupYard().save(0), 0);
        e.due("save(1)", Edge.busy().save(1), 23);
        e.says("Promise 30: overwrites what was saved there");
        for (int slot = 0; slot < 2; slot++) {
            PickupYard x = Edge.busy();
            x.save(slot);
            x.pass(1);
            e.due("the other slot", x.restore(1 - slot), slot == 0 ? 17 : 6);
            e.due("the slot", x.restore(slot), 23);
        }
        e.says("Promise 30: everything except the pad, the history and the slots");
        PickupYard x = Edge.busy();
        x.undo();
        x.save(0);
        x.put(';');
        x.pass(1);
        x.save(1);
        x.restore(0);
        e.due("count(13)", x.count(13), 7);
        e.due("count(14)", x.count(14), 6);
        e.due("restore(1)", x.restore(1), 18);
    }

    private static void restore() {
        e.says("Promise 31: BAD_VALUE if there is no such slot (0 or 1)");
        e.range("restore(slot)", BUSY, (x, slot) -> x.restore(slot), 0, 1, BAD_VALUE);
        e.says("Promise 31: NOT_POSSIBLE if nothing was saved in it");
        for (int slot = 0; slot < 2; slot++) {
            int one = slot;
            e.refuses("restore(" + slot + ")", FRESH, x -> x.restore(one), NOT_POSSIBLE);
            e.refuses("restore(" + slot + "), the other one saved", () -> {
                PickupYard x = new PickupYard();
                x.save(1 - one);
                return x;
            }, x -> x.restore(one), NOT_POSSIBLE);
            e.refuses("restore(" + slot + "), a save of no slot", () -> {
                PickupYard x = new PickupYard();
                x.save(one == 0 ? -1 : 2);
                return x;
            }, x -> x.restore(one), NOT_POSSIBLE);
        }
        e.says("Promise 31: restores what was saved last in a slot, which keeps it; returns the minute then");
        for (int slot = 0; slot < 2; slot++) {
            PickupYard x = Edge.busy();
            x.save(slot);
            for (ToIntFunction<PickupYard> change : changes()) {
                if (change.applyAsInt(x) >= 0) {
                    e.due("restore(" + slot + ")", x.restore(slot), 23);
                }
            }
            PickupYard y = Edge.busy();
            e.due("restore(" + slot + ") at last", x.restore(slot), 23);
            e.holds("all is as it was", Check.seenButFor13And14(x).equals(Check.seenButFor13And14(y)));
        }
        e.says("Promise 31: a wagon that has left is as it was saved, also if it has left in another minute since");
        PickupYard left = waiting(9);
        left.pull(0, 1);
        left.save(0);
        left.leave(0);
        left.save(1);
        left.restore(0);
        left.pass(200);
        e.due("leave(0), later", left.leave(0), 106);
        e.due("ofWagon(9, 4)", left.ofWagon(9, 4), 206);
        e.due("count(12)", left.count(12), 106 * 20);
        left.restore(1);
        e.due("ofWagon(9, 4)", left.ofWagon(9, 4), 6);
        e.due("count(12)", left.count(12), 0);
        left.undo();
        e.due("ofWagon(9, 4)", left.ofWagon(9, 4), 206);
        e.due("count(12)", left.count(12), 106 * 20);
        e.says("Promise 31: a slot that was saved in minute 0");
        PickupYard x = new PickupYard();
        x.save(1);
        x.pass(9);
        e.due("restore(1)", x.restore(1), 0);
        e.due("count(14)", x.count(14), 2);
        e.due("undo()", x.undo(), 1);
        e.due("count(0)", x.count(0), 9);
    }
}
