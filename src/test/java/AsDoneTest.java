import java.util.ArrayList;
import java.util.List;
import java.util.Random;
import java.util.function.ToIntFunction;

/** What if, against what then happens: promises 18 to 24 are asked of a yard, and done in others of the same calls. */
public final class AsDoneTest {
    private static final int RUNS = 1500, CALLS = 20, NONE = -6;
    private static final Check c = new Check();
    private static final int[] movesFound = new int[3], pullsFound = new int[9];
    private static int notStraight = 0, waitedForBlocks = 0;

    private final Random random;
    private final String run;
    private final List<ToIntFunction<PickupYard>> calls = new ArrayList<>();
    private int fewestPulls, leftAt;

    private AsDoneTest(int seed) {
        random = new Random(seed);
        run = "run " + seed + ": ";
    }

    public static void main(String[] args) {
        for (int seed = 0; seed < RUNS && c.wrong() == 0; seed++) {
            AsDoneTest test = new AsDoneTest(seed);
            test.setUp();
            test.work();
            test.ask();
        }
        for (int many = 0; many < 3; many++) {
            c.holds("trains that need " + many + " moves", movesFound[many] > 20);
        }
        for (int many = 0; many <= 4; many++) {
            c.holds("trains that need " + many + " pulls", pullsFound[many] > 5);
        }
        c.holds("trains that cannot be got by pulls alone", notStraight > 20);
        c.holds("pulls that waited for a block", waitedForBlocks > 20);
        c.end("AsDoneTest");
    }

    // ---- a yard

    private PickupYard yard() {
        PickupYard x = new PickupYard();
        for (ToIntFunction<PickupYard> call : calls) {
            call.applyAsInt(x);
        }
        return x;
    }

    private void call(ToIntFunction<PickupYard> next) {
        calls.add(next);
    }

    private int from(int least, int most) {
        return least + random.nextInt(most - least + 1);
    }

    private void setUp() {
        int[] settings = {from(6, 20), from(2, 12), from(1, 5), from(0, 2), from(1, 9), 20};
        for (int i = 0; i < settings.length; i++) {
            int setting = i;
            call(x -> x.set(setting, settings[setting]));
        }
        for (int i = 0; i < 3; i++) {
            int length = from(4, 20);
            call(x -> x.track(length));
        }
        for (int i = from(4, 18); i > 0; i--) {
            int track = from(0, 2);
            int length = from(1, 3);
            call(x -> x.wagon(track, length));
        }
    }

    private void work() {
        for (int i = 0; i < CALLS; i++) {
            if (i == CALLS / 2 || i == CALLS - 1) {
                long last = Check.list(someWagons());
                call(x -> x.train(last, x.count(0) + 30));
            }
            int track = from(0, 2);
            int many = from(1, 3);
            int later = from(0, 30);
            switch (random.nextInt(9)) {
                case 0:
                    call(x -> x.block(x.count(0) + later, many * 2));
                    break;
                case 1:
                case 2:
                    call(x -> x.push(track, many));
                    break;
                case 3:
                    call(x -> x.round());
                    break;
                case 4:
                case 5:
                    long list = Check.list(someWagons());
                    call(x -> x.train(list, x.count(0) + later));
                    break;
                case 6:
                    call(x -> x.leave(0));
                    break;
                default:
                    call(x -> x.pull(track, many));
            }
        }
    }

    /** Most often those at the engine and ones that could be got behind them, but for a pair that is exchanged now and then. */
    private int[] someWagons() {
        PickupYard x = yard();
        x.set(0, 60);
        for (int i = from(0, 2); i > 0; i--) {
            x.push(from(0, 2), 1);
        }
        for (int i = from(0, 5); i > 0; i--) {
            x.pull(from(0, 2), from(1, 2));
        }
        int[] wagons = new int[Math.min(8, x.count(3))];
        for (int i = 0; i < wagons.length; i++) {
            wagons[i] = x.at(NONE, i);
        }
        int last = wagons.length - 1;
        if (last > 0 && random.nextInt(4) == 0) {
            int first = wagons[0];
            wagons[0] = wagons[last];
            wagons[last] = first;
        }
        return wagons;
    }

    // ---- what is asked, and done

    private void ask() {
        PickupYard x = yard();
        for (int train = 0; train < x.count(6); train++) {
            int moves = fewestMoves(train);
            c.due(run + "moves(" + train + ")", x.moves(train), moves);
            fewestPulls = NONE;
            leftAt = NONE;
            PickupYard y = yard();
            y.set(0, 60);
            pullOn(train, new ArrayList<>(), y);
            c.due(run + "straight(" + train + ")", x.straight(train), fewestPulls == NONE ? 0 : 1);
            c.due(run + "pulls(" + train + ")", x.pulls(train), fewestPulls);
            c.due(run + "wouldLeave(" + train + ")", x.wouldLeave(train), leftAt);
            if (moves != NONE) {
                movesFound[moves]++;
            }
            if (fewestPulls == NONE) {
                notStraight++;
            } else {
                pullsFound[fewestPulls]++;
            }
        }
        c.due(run + "roomFor()", x.roomFor(), tracksThatTakeAll());
        c.due(run + "buried()", x.buried(), wagonsBuried(x));
        minutesFree(x);
    }

    private int fewestMoves(int train) {
        for (int many = 0; many <= 2; many++) {
            if (leavesBehind(new ArrayList<>(), train, many)) {
                return many;
            }
        }
        return NONE;
    }

    private PickupYard behind(List<ToIntFunction<PickupYard>> moves) {
        PickupYard x = yard();
        for (ToIntFunction<PickupYard> move : moves) {
            if (move.applyAsInt(x) < 0) {
                return null;
            }
        }
        return x;
    }

    /** Whether the train leaves behind these moves and so many more. */
    private boolean leavesBehind(List<ToIntFunction<PickupYard>> moves, int train, int more) {
        PickupYard x = behind(moves);
        if (x == null || more == 0) {
            return x != null && x.leave(train) >= 0;
        }
        List<ToIntFunction<PickupYard>> next = new ArrayList<>();
        next.add(y -> y.round());
        for (int i = 0; i < x.count(1); i++) {
            int track = i;
            for (int j = 1; j <= Math.max(x.ofTrack(track, 1), x.count(3)); j++) {
                int many = j;
                next.add(y -> y.pull(track, many));
                next.add(y -> y.push(track, many));
            }
        }
        for (ToIntFunction<PickupYard> move : next) {
            List<ToIntFunction<PickupYard>> longer = new ArrayList<>(moves);
            longer.add(move);
            if (leavesBehind(longer, train, more - 1)) {
                return true;
            }
        }
        return false;
    }

    /** Makes all pulls that a list allows, in a neck in which all wagons fit, and notes the fewest. */
    private void pullOn(int train, List<int[]> pulls, PickupYard x) {
        int size = x.ofTrain(train, 0);
        for (int i = 0; i < x.count(3); i++) {
            if (i >= size || x.at(NONE, i) != x.ofTrain(train, 2 + i)) {
                return;
            }
        }
        int missing = size - x.count(3);
        int first = x.ofTrain(train, 2);
        int waited = x.count(11);
        if (x.leave(train) >= 0) {
            noteLeft(pulls.size(), x.ofWagon(first, 4));
            waitedForBlocks += waited > yard().count(11) ? 1 : 0;
            return;
        }
        for (int track = 0; track < x.count(1); track++) {
            for (int many = 1; many <= Math.min(missing, x.ofTrack(track, 1)); many++) {
                List<int[]> longer = new ArrayList<>(pulls);
                longer.add(new int[] {track, many});
                PickupYard y = yard();
                y.set(0, 60);
                for (int[] pull : longer) {
                    c.holds(run + "a pull that the neck allows", y.pull(pull[0], pull[1]) > 0);
                }
                pullOn(train, longer, y);
            }
        }
    }

    private void noteLeft(int pulls, int minute) {
        if (fewestPulls == NONE || pulls < fewestPulls) {
            fewestPulls = pulls;
            leftAt = minute;
        } else if (pulls == fewestPulls) {
            c.due(run + "the minute by other pulls that are as few", minute, leftAt);
        }
    }

    private int tracksThatTakeAll() {
        int set = 0;
        for (int track = 0; track < 3; track++) {
            PickupYard x = yard();
            set |= x.push(track, x.count(3)) == 0 ? 1 << track : 0;
        }
        return set;
    }

    private static int wagonsBuried(PickupYard x) {
        int many = 0;
        for (int wagon = 0; wagon < x.count(2); wagon++) {
            boolean buried = false;
            for (int place = 0; place < x.ofWagon(wagon, 7); place++) {
                int above = x.at(x.ofWagon(wagon, 1), place);
                buried |= x.ofWagon(above, 6) != x.ofWagon(wagon, 6);
            }
            many += buried && x.ofWagon(wagon, 6) != NONE ? 1 : 0;
        }
        return many;
    }

    /** Going round takes as many minutes as are asked for, where nothing is coupled in time. */
    private void minutesFree(PickupYard x) {
        for (int minutes = 1; minutes <= 60; minutes += 3) {
            PickupYard y = yard();
            y.set(1, 60);
            y.set(3, 0);
            y.set(4, minutes);
            int behind = y.round();
            if (x.count(3) > 0) {
                c.due(run + "freeFrom(" + minutes + ")", x.freeFrom(minutes), behind - minutes);
            }
        }
    }
}
