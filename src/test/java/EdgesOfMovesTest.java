/** What the terms "Tracks and wagons", "Moves" and "Blocks" name as a boundary, sentence by sentence. */
public final class EdgesOfMovesTest {
    private static final int BAD_VALUE = -2, TOO_MANY = -4, NOT_POSSIBLE = -5, NONE = -6;
    private static final Edge e = new Edge();

    public static void main(String[] args) {
        tracksAndTheirLengths();
        wagonsAndTheirLengths();
        whereAWagonIs();
        rows();
        together();
        pullMeans();
        intoTheTrackWithAll();
        pullCouples();
        neck();
        pushMeans();
        pushCouples();
        fits();
        roundMeans();
        loop();
        minutes();
        moveBegins();
        moveBetweenBlocks();
        blocksUpToTen();
        blockEnds();
        blockGoes();
        e.end("EdgesOfMovesTest");
    }

    // ---- tracks and wagons

    private static void tracksAndTheirLengths() {
        e.says("There are up to 8 tracks");
        PickupYard x = new PickupYard();
        for (int i = 0; i < 8; i++) {
            e.due("count(1)", x.count(1), i);
            e.due("track(10)", x.track(10), i);
        }
        e.refuses("ninth track", () -> Check.yard(8, 10), y -> y.track(10), TOO_MANY);
        e.due("ofTrack(8, 0)", Check.yard(8, 10).ofTrack(8, 0), -1);
        e.says("a track has a length (4 to 60)");
        int[] range = {4, 60};
        e.rangeSeen("track", PickupYard::new, (y, length) -> y.track(length), range, BAD_VALUE, y -> y.ofTrack(0, 0));
        e.range("track, in a full yard", () -> Check.yard(7, 10), (y, length) -> y.track(length), 4, 60, BAD_VALUE);
    }

    private static PickupYard withWagons(int many) {
        PickupYard x = Check.yard(2, 60);
        for (int i = 0; i < many; i++) {
            x.wagon(0, 1);
        }
        return x;
    }

    private static void wagonsAndTheirLengths() {
        e.says("There are up to 30 wagons");
        e.due("wagon 29", withWagons(29).wagon(1, 1), 29);
        e.refuses("wagon 30", () -> withWagons(30), x -> x.wagon(1, 1), TOO_MANY);
        e.due("count(2)", withWagons(30).count(2), 30);
        PickupYard left = withWagons(30);
        left.train(30, 100);
        left.pull(0, 1);
        left.leave(0);
        e.due("one more, once one has left", left.wagon(1, 1), TOO_MANY);
        e.says("a wagon has a length (1 to 4)");
        int[] range = {1, 4};
        e.rangeSeen("wagon", () -> withWagons(0), (x, length) -> x.wagon(0, length), range, BAD_VALUE, x -> x.ofWagon(0, 0));
        e.range("the last wagon", () -> withWagons(29), (x, length) -> x.wagon(0, length), 1, 4, BAD_VALUE);
    }

    private static void is(PickupYard x, int wagon, int track, int place, int atEngine, int left, int above) {
        int[] due = {track, place, atEngine, left};
        for (int i = 0; i < 4; i++) {
            e.due("ofWagon(" + wagon + ", " + (i + 1) + ")", x.ofWagon(wagon, i + 1), due[i]);
        }
        e.due("ofWagon(" + wagon + ", 7)", x.ofWagon(wagon, 7), above);
    }

    private static void whereAWagonIs() {
        e.says("a wagon stands on a track, is at the engine, or has left");
        PickupYard x = withWagons(2);
        x.train(2, 0);
        is(x, 1, 0, 0, 0, NONE, 0);
        is(x, 0, 0, 1, 0, NONE, 1);
        x.pull(0, 1);
        is(x, 1, NONE, 0, 1, NONE, NONE);
        is(x, 0, 0, 0, 0, NONE, 0);
        x.leave(0);
        is(x, 1, NONE, NONE, 0, 6, NONE);
        is(x, 0, 0, 0, 0, NONE, 0);
        PickupYard y = withWagons(1);
        y.set(2, 1);
        y.set(3, 0);
        y.train(1, 0);
        y.pull(0, 1);
        y.leave(0);
        is(y, 0, NONE, NONE, 0, 1, NONE);
    }

    private static void rows() {
        e.says("The wagons on a track stand in a row from its open end to its buffer; place 0 is at the open end");
        PickupYard x = withWagons(30);
        for (int place = 0; place < 30; place++) {
            e.due("at(0, " + place + ")", x.at(0, place), 29 - place);
            e.due("ofWagon(" + (29 - place) + ", 2)", x.ofWagon(29 - place, 2), place);
            e.due("ofWagon(" + (29 - place) + ", 7)", x.ofWagon(29 - place, 7), place);
        }
        e.due("at(0, 30)", x.at(0, 30), NONE);
        e.due("at(0, -1)", x.at(0, -1), NONE);
        e.row("an empty track", x, 1);
        e.says("The wagons at the engine are in a row from the engine on; place 0 is next to the engine");
        e.row("an engine without wagons", x, NONE);
        x.set(0, 30);
        x.pull(0, 30);
        for (int place = 0; place < 30; place++) {
            e.due("at(NONE, " + place + ")", x.at(NONE, place), 29 - place);
            e.due("ofWagon(" + (29 - place) + ", 2)", x.ofWagon(29 - place, 2), place);
        }
        e.due("at(NONE, 30)", x.at(NONE, 30), NONE);
        e.due("at(NONE, -1)", x.at(NONE, -1), NONE);
    }

    /** A track of a length, on which are wagons of so much together. */
    private static PickupYard filled(int length, int together) {
        PickupYard x = new PickupYard();
        x.track(length);
        for (int left = together; left > 0; left -= 4) {
            x.wagon(0, Math.min(4, left));
        }
        return x;
    }

    private static void together() {
        e.says("The lengths of the wagons on a track are together at most its length");
        for (int length = 4; length <= 60; length++) {
            int all = length;
            for (int wagon = 1; wagon <= 4; wagon++) {
                int last = wagon;
                e.holds("a wagon that fills a track of " + length, filled(length, length - last).wagon(0, last) >= 0);
                e.refuses("a wagon of 1 too much for " + length, () -> filled(all, all - last + 1), x -> x.wagon(0, last),
                    NOT_POSSIBLE);
            }
            e.due("its wagons together", filled(length, length).ofTrack(0, 2), length);
        }
        PickupYard x = Check.yard(1, 4);
        e.due("a wagon that fills an empty track", x.wagon(0, 4), 0);
        e.due("one more", x.wagon(0, 1), NOT_POSSIBLE);
    }

    // ---- moves

    private static void pullMeans() {
        e.says("that many wagons, from the open end on, come behind the last one, in their order");
        for (int many = 1; many <= 5; many++) {
            PickupYard x = Check.yard(2, 10);
            Check.wagons(x, 0, 1, 1, 1, 1, 1);
            Check.wagons(x, 1, 1, 1);
            e.due("pull of " + many, x.pull(0, many), many);
            e.due("place 0", x.at(NONE, 0), 4);
            e.due("the last place", x.at(NONE, many - 1), 5 - many);
            e.due("behind it", x.at(NONE, many), NONE);
            e.due("the open end", x.at(0, 0), many == 5 ? NONE : 4 - many);
            e.due("pull of 2 more", x.pull(1, 2), many + 2);
            e.due("place 0 still", x.at(NONE, 0), 4);
            e.due("behind the last one", x.at(NONE, many), 6);
            e.due("behind that one", x.at(NONE, many + 1), 5);
            e.due("pull of one too many", x.pull(0, 6 - many), NOT_POSSIBLE);
        }
    }

    private static void intoTheTrackWithAll() {
        e.says("the engine goes into the track with all its wagons: they need not fit there");
        PickupYard x = pulled(4, 58, 1);
        e.due("pull of a wagon of 1 behind 15 wagons out of a track of 4", x.pull(2, 1), 16);
        e.due("their lengths", x.count(4), 59);
        e.due("push of it into the track", x.push(2, 1), 15);
        e.due("wagons on it", x.ofTrack(2, 1), 1);
        e.due("push of a wagon of 4 into it", x.push(2, 1), NOT_POSSIBLE);
        e.due("pull of the one that is there", x.pull(2, 1), 16);
        e.due("push of two", x.push(2, 2), NOT_POSSIBLE);
        e.due("push of one", x.push(2, 1), 15);
    }

    private static void pullCouples() {
        e.says("There is one coupling, and one more if wagons stay behind on the track (there they are uncoupled)");
        for (int there = 1; there <= 6; there++) {
            for (int many = 1; many <= there; many++) {
                for (int before = 0; before <= 2; before++) {
                    PickupYard x = Check.yard(1, Math.max(4, there + before));
                    for (int i = 0; i < there + before; i++) {
                        x.wagon(0, 1);
                    }
                    if (before > 0) {
                        x.pull(0, before);
                    }
                    int couplings = x.count(9);
                    int minute = x.count(0);
                    int due = many < there ? 2 : 1;
                    e.due("pull of " + many + " of " + there, x.pull(0, many), before + many);
                    e.due("couplings", x.count(9) - couplings, due);
                    e.due("minutes", x.count(0) - minute, 4 + due);
                }
            }
        }
        e.says("pull: the couplings at a full track");
        PickupYard y = Check.yard(1, 8);
        Check.wagons(y, 0, 4, 4);
        y.pull(0, 1);
        e.due("count(9), one of two", y.count(9), 2);
        y.pull(0, 1);
        e.due("count(9), the other one", y.count(9), 3);
    }

    /** Two tracks; behind a pull of all from the first one, wagons of so much together are at the engine. */
    private static PickupYard atEngine(int together) {
        PickupYard x = Check.yard(2, 60);
        for (int left = together; left > 0; left -= 4) {
            x.wagon(0, Math.min(4, left));
        }
        x.wagon(1, 1);
        return x;
    }

    private static void neck() {
        e.says("The lengths of all wagons at the engine have to be at most NECK then");
        for (int neck = 4; neck <= 60; neck++) {
            int most = neck;
            PickupYard x = atEngine(neck);
            int wagons = x.ofTrack(0, 1);
            x.set(0, neck);
            e.due("pull of all in a neck of " + neck, x.pull(0, wagons), wagons);
            e.due("their lengths", x.count(4), neck);
            e.refuses("one more in a neck of " + neck, () -> {
                PickupYard y = atEngine(most);
                y.set(0, most);
                y.pull(0, y.ofTrack(0, 1));
                return y;
            }, y -> y.pull(1, 1), NOT_POSSIBLE);
            if (neck < 60) {
                e.refuses("all at once in a neck that is 1 too short", () -> {
                    PickupYard y = atEngine(most + 1);
                    y.set(0, most);
                    return y;
                }, y -> y.pull(0, y.ofTrack(0, 1)), NOT_POSSIBLE);
            }
        }
    }

    private static void pushMeans() {
        e.says("that many of the wagons at the engine, the last ones, stay on the track, at its open end, in their order");
        for (int many = 1; many <= 5; many++) {
            PickupYard x = Check.yard(3, 10);
            Check.wagons(x, 0, 1, 1, 1, 1, 1);
            Check.wagons(x, 1, 1);
            x.pull(0, 5);
            e.due("push of " + many, x.push(1, many), 5 - many);
            for (int place = 0; place < many; place++) {
                e.due("at(1, " + place + ")", x.at(1, place), many - 1 - place);
            }
            e.due("the one that was there", x.at(1, many), 5);
            e.due("behind it", x.at(1, many + 1), NONE);
            e.due("the last one at the engine", x.at(NONE, 4 - many), many == 5 ? NONE : many);
            e.due("behind it", x.at(NONE, 5 - many), NONE);
            e.due("push of one too many", x.push(2, 6 - many), NOT_POSSIBLE);
        }
    }

    private static void pushCouples() {
        e.says("There is one coupling (where they are uncoupled), and one more if there were wagons on the track");
        for (int there = 0; there <= 3; there++) {
            for (int many = 1; many <= 4; many++) {
                PickupYard x = Check.yard(2, 10);
                Check.wagons(x, 0, 1, 1, 1, 1);
                for (int i = 0; i < there; i++) {
                    x.wagon(1, 1);
                }
                x.pull(0, 4);
                int due = there > 0 ? 2 : 1;
                e.due("push of " + many + " to " + there, x.push(1, many), 4 - many);
                e.due("couplings", x.count(9), 1 + due);
                e.due("minutes", x.count(0), 5 + 4 + due);
            }
        }
        e.says("push: the couplings at a track that is full then");
        PickupYard y = Check.yard(1, 8);
        y.track(8);
        Check.wagons(y, 0, 4, 4);
        y.pull(0, 2);
        y.push(1, 1);
        e.due("count(9), into an empty track", y.count(9), 2);
        y.push(1, 1);
        e.due("count(9), into one that gets full", y.count(9), 4);
    }

    private static void fits() {
        e.says("They have to fit on the track");
        for (int length = 4; length <= 60; length++) {
            for (int there = 0; there <= 4; there += 2) {
                int track = length;
                int together = length - there;
                int wagon = there;
                if (together > 0) {
                    PickupYard x = pulled(track, together, wagon);
                    e.due("push of " + together + " to " + there + " into " + length, x.push(2, x.count(3)), 0);
                    e.due("all lengths on it", x.ofTrack(2, 2), length);
                    e.due("a wagon more", x.wagon(2, 1), NOT_POSSIBLE);
                }
                if (together < 60) {
                    e.refuses("push of 1 too much into " + length, () -> pulled(track, together + 1, wagon),
                        x -> x.push(2, x.count(3)), NOT_POSSIBLE);
                }
            }
        }
    }

    /** Track 2 is of a length, with a wagon of another one (none for 0); so much is at the engine. */
    private static PickupYard pulled(int length, int together, int there) {
        PickupYard x = atEngine(together);
        x.track(length);
        if (there > 0) {
            x.wagon(2, there);
        }
        x.set(0, 60);
        x.pull(0, x.ofTrack(0, 1));
        return x;
    }

    private static void roundMeans() {
        e.says("their order is the reverse then");
        for (int many = 1; many <= 12; many++) {
            PickupYard x = withWagons(many);
            x.pull(0, many);
            e.due("round() of " + many, x.round(), 5 + 11);
            for (int place = 0; place < many; place++) {
                e.due("at(NONE, " + place + ")", x.at(NONE, place), place);
            }
            e.due("behind the last one", x.at(NONE, many), NONE);
            e.due("couplings", x.count(9), 1 + 2);
        }
        PickupYard y = withWagons(30);
        y.set(0, 30);
        y.set(1, 30);
        y.pull(0, 30);
        e.due("round() of 30", y.round(), 16);
        e.due("at(NONE, 0)", y.at(NONE, 0), 0);
        e.due("at(NONE, 29)", y.at(NONE, 29), 29);
        e.says("It is possible only if there are wagons at the engine");
        e.refuses("round() without wagons", PickupYard::new, x -> x.round(), NOT_POSSIBLE);
        e.refuses("round() behind a push of all", () -> {
            PickupYard x = withWagons(1);
            x.pull(0, 1);
            x.push(1, 1);
            return x;
        }, x -> x.round(), NOT_POSSIBLE);
    }

    private static void loop() {
        e.says("and their lengths are at most LOOP together");
        for (int loop = 2; loop <= 60; loop++) {
            int most = loop;
            PickupYard x = pulled(4, loop, 0);
            x.set(1, loop);
            e.due("round() of " + loop + " in as much", x.round(), x.count(0));
            e.due("moves", x.count(10), 2);
            if (loop < 60) {
                e.refuses("round() of 1 too much for " + loop, () -> {
                    PickupYard y = pulled(4, most + 1, 0);
                    y.set(1, most);
                    return y;
                }, y -> y.round(), NOT_POSSIBLE);
            }
        }
    }

    private static void minutes() {
        e.says("A pull or a push takes MOVE minutes, going round takes ROUND minutes, and each coupling COUPLE minutes more");
        for (int couple = 0; couple <= 10; couple += 5) {
            for (int move = 1; move <= 20; move++) {
                PickupYard x = withWagons(2);
                x.set(2, move);
                x.set(3, couple);
                x.pull(0, 1);
                e.due("pull of one of two, MOVE " + move, x.count(0), move + 2 * couple);
                x.pull(0, 1);
                e.due("pull of one of one", x.count(0), 2 * move + 3 * couple);
                x.push(1, 1);
                e.due("push to none", x.count(0), 3 * move + 4 * couple);
                x.push(1, 1);
                e.due("push to one", x.count(0), 4 * move + 6 * couple);
            }
            for (int round = 1; round <= 60; round++) {
                PickupYard x = withWagons(1);
                x.set(3, couple);
                x.set(4, round);
                x.pull(0, 1);
                e.due("round(), ROUND " + round, x.round(), 4 + couple + round + 2 * couple);
            }
        }
    }

    /** A wagon at the engine, and two on track 0; the minute is 100, and a pull, a push or going round takes so long. */
    private static PickupYard movable(int takes) {
        PickupYard x = withWagons(3);
        x.set(2, takes - 2);
        x.set(4, takes - 2);
        x.pull(0, 1);
        x.pass(100 - x.count(0));
        return x;
    }

    private static void move(PickupYard x, int kind) {
        if (kind == 0) {
            x.pull(0, 1);
        } else if (kind == 1) {
            x.push(0, 1);
        } else {
            x.round();
        }
    }

    /** Each kind of move, with blocks of these beginnings and lengths, begins in a minute. */
    private static void begins(String what, int takes, int due, int... blocks) {
        for (int kind = 0; kind < 3; kind++) {
            for (boolean turned : new boolean[] {false, true}) {
                PickupYard x = movable(takes);
                int many = blocks.length / 2;
                for (int i = 0; i < many; i++) {
                    int block = turned ? many - 1 - i : i;
                    x.block(blocks[2 * block], blocks[2 * block + 1]);
                }
                e.due(what + ": freeFrom(" + takes + ")", x.freeFrom(takes), due);
                int moves = x.count(10);
                move(x, kind);
                e.due(what + ": the minute behind its last one, kind " + kind, x.count(0), due + takes);
                e.due(what + ": minutes waited", x.count(11), due - 100);
                e.due(what + ": moves", x.count(10) - moves, 1);
            }
        }
    }

    private static void moveBegins() {
        e.says("A move begins in the first minute, from the present one on, from which on as many minutes as it takes are free");
        begins("no blocks", 6, 100);
        begins("a block that begins when it ends", 6, 100, 106, 5);
        begins("a block that begins in its last minute", 6, 110, 105, 5);
        begins("a block of its last minute alone", 6, 106, 105, 1);
        begins("a block that begins with it", 6, 105, 100, 5);
        begins("a block of its first minute alone", 6, 101, 100, 1);
        begins("a block of its second minute", 6, 102, 101, 1);
        begins("a longest block", 6, 600, 100, 500);
        begins("a longest move and a block at its end", 22, 100, 122, 1);
        begins("a longest move and a block in its last minute", 22, 122, 121, 1);
        e.says("A move begins in the present minute, if a block ends in it");
        PickupYard x = movable(6);
        x.block(101, 4);
        x.pass(5);
        x.pull(0, 1);
        e.due("count(0)", x.count(0), 105 + 6);
        e.due("count(11)", x.count(11), 0);
    }

    private static void moveBetweenBlocks() {
        e.says("A move that has to wait begins between two blocks, if it just fits");
        begins("a gap of as long", 6, 105, 100, 5, 111, 9);
        begins("a gap 1 too short", 6, 119, 100, 5, 110, 9);
        begins("the second gap", 6, 115, 100, 5, 110, 5, 121, 9);
        begins("blocks side by side", 6, 115, 100, 5, 105, 10);
        begins("blocks that overlap", 6, 117, 100, 12, 105, 12);
        begins("a block in another", 6, 130, 100, 30, 110, 5);
        begins("the same block twice", 6, 107, 102, 5, 102, 5);
        begins("ten blocks with gaps 1 too short", 6, 196, 100, 5, 110, 5, 120, 5, 130, 5, 140, 5, 150, 5, 160, 5, 170, 5,
            180, 5, 190, 6);
        begins("ten blocks with the last gap fitting", 6, 185, 100, 5, 110, 5, 120, 5, 130, 5, 140, 5, 150, 5, 160, 5, 170, 5,
            180, 5, 191, 6);
    }

    // ---- blocks

    private static PickupYard blocked(int many) {
        PickupYard x = new PickupYard();
        for (int i = 0; i < many; i++) {
            x.block(10 + 3 * i, 2);
        }
        return x;
    }

    private static void blocksUpToTen() {
        e.says("There are up to 10 blocks");
        for (int i = 0; i < 10; i++) {
            e.due("block " + i, blocked(i).block(5, 3), i + 1);
            e.due("count(8)", blocked(i).count(8), i);
        }
        e.refuses("block 10", () -> blocked(10), x -> x.block(5, 3), TOO_MANY);
        PickupYard x = blocked(10);
        x.pass(11);
        e.due("block 10, a minute before the first one ends", x.block(50, 3), TOO_MANY);
        x.pass(1);
        e.due("block 10, in the minute in which the first one ends", x.block(50, 3), 10);
        e.due("one more", x.block(60, 3), TOO_MANY);
    }

    private static void blockEnds() {
        e.says("from a minute to a later one, which does not belong to it");
        for (int minutes = 1; minutes <= 500; minutes += minutes < 5 ? 1 : 99) {
            PickupYard x = new PickupYard();
            x.block(5, minutes);
            e.due("5 minutes before it", x.freeFrom(5), 0);
            e.due("6 minutes", x.freeFrom(6), 5 + minutes);
            x.pass(4);
            e.due("in the minute before it", x.freeFrom(1), 4);
            x.pass(1);
            e.due("in its first minute", x.freeFrom(1), 5 + minutes);
            x.pass(minutes);
            e.due("in the minute in which it ends", x.freeFrom(1), 5 + minutes);
        }
        PickupYard x = new PickupYard();
        x.block(5, 500);
        x.pass(504);
        e.due("in its last minute", x.freeFrom(500), 505);
    }

    private static void blockGoes() {
        e.says("A block goes when the minute in which it ends has come");
        PickupYard x = new PickupYard();
        x.block(3, 4);
        x.pass(6);
        e.due("pass to the minute before", x.count(8), 1);
        x.pass(1);
        e.due("pass to the minute", x.count(8), 0);
        PickupYard y = new PickupYard();
        y.block(3, 4);
        y.pass(999);
        e.due("pass far beyond it", y.count(8), 0);
        for (int kind = 0; kind < 3; kind++) {
            PickupYard z = movable(6);
            z.block(100, 2);
            z.block(100, 7);
            z.block(113, 1);
            z.block(113, 2);
            move(z, kind);
            e.due("kind " + kind + ", minute", z.count(0), 113);
            e.due("kind " + kind + ", those stay that have not ended", z.count(8), 2);
            z.pass(1);
            e.due("kind " + kind + ", one that ends in the minute goes", z.count(8), 1);
            e.due("kind " + kind + ", the other one stands", z.freeFrom(1), 115);
        }
        PickupYard w = movable(6);
        w.block(100, 1);
        Check.write(w, "w1");
        w.carryOut();
        e.due("carryOut", w.count(8), 0);
        w.undo();
        e.due("undo of that", w.count(8), 1);
    }
}
