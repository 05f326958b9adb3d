/** Promises 13 to 17: ofTrack, at, ofWagon, ofTrain, count. */
public final class WhatThereIsTest {
    private static final int MAX = Integer.MAX_VALUE, MIN = Integer.MIN_VALUE;
    private static final Check c = new Check();

    public static void main(String[] args) {
        PickupYard x = yard();
        ofTrack(x);
        at(x);
        ofWagon(x);
        ofTrain(x);
        count(x);
        pulledAgain();
        c.end("WhatThereIsTest");
    }

    /** Track 0: 1, 0; track 1: 4, 3; at the engine 6, 5; wagon 2 has left in minute 6; the minute is 30. */
    private static PickupYard yard() {
        PickupYard x = new PickupYard();
        x.track(20);
        x.track(30);
        x.track(10);
        Check.wagons(x, 0, 1, 2, 3);
        Check.wagons(x, 1, 4, 3, 2, 1);
        x.train(Check.list(2), 6);
        x.train(Check.list(3, 0, 6), 40);
        x.train(Check.list(5), 50);
        x.pull(0, 1);
        x.leave(0);
        x.block(8, 10);
        x.block(100, 5);
        x.pull(1, 2);
        x.pass(6);
        return x;
    }

    private static void ofTrack(PickupYard x) {
        int[][] due = {{20, 2, 3, 1, 0}, {30, 2, 7, 2, 0}, {10, 0, 0, 0, 0}};
        for (int track = 0; track < 3; track++) {
            for (int what = 0; what <= 4; what++) {
                c.due("ofTrack(" + track + ", " + what + ")", x.ofTrack(track, what), due[track][what]);
            }
        }
        for (int what : new int[] {-1, 5, MAX, MIN}) {
            c.changesNothing(x, "ofTrack(0, " + what + ")", () -> x.ofTrack(0, what), -2);
            c.changesNothing(x, "ofTrack(3, " + what + ")", () -> x.ofTrack(3, what), -1);
        }
        for (int track : new int[] {-1, 3, -6, MAX, MIN}) {
            c.changesNothing(x, "ofTrack(" + track + ", 0)", () -> x.ofTrack(track, 0), -1);
        }
    }

    private static void at(PickupYard x) {
        int[][] rows = {{1, 0}, {4, 3}, {}, {6, 5}};
        int[] tracks = {0, 1, 2, -6};
        for (int row = 0; row < 4; row++) {
            int track = tracks[row];
            for (int place = 0; place < rows[row].length; place++) {
                c.due("at(" + track + ", " + place + ")", x.at(track, place), rows[row][place]);
            }
            for (int place : new int[] {-1, rows[row].length, MAX, MIN}) {
                c.changesNothing(x, "at(" + track + ", " + place + ")", () -> x.at(track, place), -6);
            }
        }
        for (int track : new int[] {-1, 3, -5, -7, 8, MAX, MIN}) {
            c.changesNothing(x, "at(" + track + ", 0)", () -> x.at(track, 0), -1);
            c.changesNothing(x, "at(" + track + ", -1)", () -> x.at(track, -1), -1);
        }
    }

    private static void ofWagon(PickupYard x) {
        int[][] due = {
            {1, 0, 1, 0, -6, 0, 0, 1},
            {2, 0, 0, 0, -6, 0, -6, 0},
            {3, -6, -6, 0, 6, 1, -6, -6},
            {4, 1, 1, 0, -6, 0, 0, 1},
            {3, 1, 0, 0, -6, 0, -6, 0},
            {2, -6, 1, 1, -6, 1, 1, -6},
            {1, -6, 0, 1, -6, 1, 0, -6},
        };
        for (int wagon = 0; wagon < due.length; wagon++) {
            for (int what = 0; what <= 7; what++) {
                c.due("ofWagon(" + wagon + ", " + what + ")", x.ofWagon(wagon, what), due[wagon][what]);
            }
        }
        for (int what : new int[] {-1, 8, MAX, MIN}) {
            c.changesNothing(x, "ofWagon(0, " + what + ")", () -> x.ofWagon(0, what), -2);
            c.changesNothing(x, "ofWagon(2, " + what + ")", () -> x.ofWagon(2, what), -2);
            c.changesNothing(x, "ofWagon(7, " + what + ")", () -> x.ofWagon(7, what), -1);
        }
        for (int wagon : new int[] {-1, 7, 30, -6, MAX, MIN}) {
            c.changesNothing(x, "ofWagon(" + wagon + ", 0)", () -> x.ofWagon(wagon, 0), -1);
        }
    }

    private static void ofTrain(PickupYard x) {
        int[][] due = {
            {3, 40, 3, 0, 6, -6, -6, -6, -6, -6, 6},
            {1, 50, 5, -6, -6, -6, -6, -6, -6, -6, 2},
        };
        for (int train = 0; train < 2; train++) {
            for (int what = 0; what <= 10; what++) {
                c.due("ofTrain(" + train + ", " + what + ")", x.ofTrain(train, what), due[train][what]);
            }
        }
        for (int what : new int[] {-1, 11, MAX, MIN}) {
            c.changesNothing(x, "ofTrain(0, " + what + ")", () -> x.ofTrain(0, what), -2);
            c.changesNothing(x, "ofTrain(2, " + what + ")", () -> x.ofTrain(2, what), -1);
        }
        for (int train : new int[] {-1, 2, 8, -6, MAX, MIN}) {
            c.changesNothing(x, "ofTrain(" + train + ", 0)", () -> x.ofTrain(train, 0), -1);
        }
    }

    private static void count(PickupYard x) {
        x.put('p');
        x.set(5, 33);
        int[] due = {30, 3, 7, 2, 3, 1, 2, 1, 1, 4, 2, 12, 0, 1, 6, 16, 12, 4, 1, 9, 33};
        for (int what = 0; what < due.length; what++) {
            c.due("count(" + what + ")", x.count(what), due[what]);
        }
        for (int what : new int[] {-1, 21, MAX, MIN}) {
            c.changesNothing(x, "count(" + what + ")", () -> x.count(what), -2);
        }
    }

    private static void pulledAgain() {
        PickupYard x = Check.yard(2, 20);
        Check.wagons(x, 0, 1, 1);
        for (int i = 1; i <= 3; i++) {
            x.pull(0, 2);
            x.push(0, 1);
            c.due("came out", x.ofTrack(0, 3), 3 * i - 1);
            c.due("pushed in", x.ofTrack(0, 4), 3 * i - 2);
            x.pull(0, 1);
            x.push(0, 2);
            c.due("the one that stayed at the engine", x.ofWagon(1, 5), i);
            c.due("the one that went in and out", x.ofWagon(0, 5), 2 * i);
            c.due("out", x.ofTrack(0, 3), 3 * i);
            c.due("in", x.ofTrack(0, 4), 3 * i);
        }
    }
}
