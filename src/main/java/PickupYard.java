/** A shunting yard with an engine, wagons, and trains that wait for them; README.md tells how to use it. */
public final class PickupYard {
    public static final int NO_SUCH = -1, BAD_VALUE = -2, BAD_TEXT = -3, TOO_MANY = -4, NOT_POSSIBLE = -5, NONE = -6;
    public static final int NECK = 0, LOOP = 1, MOVE = 2, COUPLE = 3, ROUND = 4, FINE = 5;

    private static final int[] FIRST_VALUES = {16, 12, 4, 1, 9, 20};
    private static final int[] LEAST_VALUES = {4, 2, 1, 0, 1, 0};
    private static final int[] MOST_VALUES = {60, 60, 20, 10, 60, 1000};
    private static final int SETTINGS = 6;

    private static final int MOST_TRACKS = 8, SHORTEST_TRACK = 4, LONGEST_TRACK = 60;
    private static final int MOST_WAGONS = 30, SHORTEST_WAGON = 1, LONGEST_WAGON = 4;
    private static final int MOST_BLOCKS = 10, LONGEST_BLOCK = 500, LATEST_BLOCK = 2000;
    private static final int MOST_TRAINS = 8, LONGEST_LIST = 8, LATEST_DUE = 5000;
    private static final int LONGEST_PASS = 999;
    private static final int MOST_STATES = 6, SLOTS = 2;
    private static final int LONGEST_PAD = 80, MOST_CHARACTERS = 8, FIRST_CODE = 33, LAST_CODE = 126;

    // The row of the engine stands behind the rows of the tracks.
    private static final int ENGINE = MOST_TRACKS, ROWS = MOST_TRACKS + 1;

    private final Yard yard = new Yard();
    private final Trial trial = new Trial();
    private final History history = new History();
    private final Yard[] slots = new Yard[SLOTS];
    private final boolean[] saved = new boolean[SLOTS];
    private final Pad pad = new Pad();
    private final int[] list = new int[LONGEST_LIST];

    public PickupYard() {
        for (int i = 0; i < SLOTS; i++) {
            slots[i] = new Yard();
        }
    }

    // ---- setting up

    public int set(int setting, int value) {
        history.note(yard);
        return history.kept(yard.changeSetting(setting, value));
    }

    public int track(int length) {
        history.note(yard);
        return history.kept(yard.addTrack(length));
    }

    public int wagon(int track, int length) {
        history.note(yard);
        return history.kept(yard.addWagon(track, length));
    }

    public int block(int from, int minutes) {
        history.note(yard);
        return history.kept(yard.addBlock(from, minutes));
    }

    // ---- moves

    public int pull(int track, int many) {
        history.note(yard);
        return history.kept(yard.takeOut(track, many));
    }

    public int push(int track, int many) {
        history.note(yard);
        return history.kept(yard.bringIn(track, many));
    }

    public int round() {
        history.note(yard);
        return history.kept(yard.goRound());
    }

    public int pass(int minutes) {
        history.note(yard);
        return history.kept(yard.letPass(minutes));
    }

    // ---- trains

    public int train(long wagons, int due) {
        history.note(yard);
        int many = readList(wagons);
        return history.kept(yard.addTrain(list, many, due));
    }

    /** Reads the list that a number tells, and returns how many wagons it has; 0 if the number tells none. */
    private int readList(long told) {
        long rest = told;
        int many = 0;
        for (int i = 0; i < LONGEST_LIST && rest > 0; i++) {
            int digit = (int) (rest % (MOST_WAGONS + 1));
            if (digit == 0) {
                return 0;
            }
            list[i] = digit - 1;
            many++;
            rest /= MOST_WAGONS + 1;
        }
        return rest == 0 ? many : 0;
    }

    public int strike(int train) {
        history.note(yard);
        return history.kept(yard.strikeOut(train));
    }

    public int leave(int train) {
        history.note(yard);
        return history.kept(yard.letLeave(train));
    }

    // ---- what there is

    public int ofTrack(int track, int what) {
        return yard.aboutTrack(track, what);
    }

    public int at(int track, int place) {
        if (track == NONE) {
            return yard.wagons.wagonAt(ENGINE, place);
        }
        return yard.hasTrack(track) ? yard.wagons.wagonAt(track, place) : NO_SUCH;
    }

    public int ofWagon(int wagon, int what) {
        return yard.aboutWagon(wagon, what);
    }

    public int ofTrain(int train, int what) {
        return yard.aboutTrain(train, what);
    }

    public int count(int what) {
        if (what == 13) {
            return pad.length;
        }
        if (what == 14) {
            return history.number;
        }
        return yard.aboutYard(what);
    }

    // ---- what if; nothing changes

    public int freeFrom(int minutes) {
        if (minutes < 1 || minutes > LONGEST_BLOCK) {
            return BAD_VALUE;
        }
        return yard.blocks.firstFree(yard.minute, minutes);
    }

    public int straight(int train) {
        if (!yard.trains.has(train)) {
            return NO_SUCH;
        }
        return trial.fewestPulls(yard, train) == NONE ? 0 : 1;
    }

    public int pulls(int train) {
        return yard.trains.has(train) ? trial.fewestPulls(yard, train) : NO_SUCH;
    }

    public int wouldLeave(int train) {
        if (!yard.trains.has(train)) {
            return NO_SUCH;
        }
        return trial.fewestPulls(yard, train) == NONE ? NONE : trial.copy.minute;
    }

    public int moves(int train) {
        return yard.trains.has(train) ? trial.fewestMoves(yard, train) : NO_SUCH;
    }

    public int roomFor() {
        return yard.tracksFor(yard.wagons.manyIn(ENGINE));
    }

    public int buried() {
        return yard.manyBuried();
    }

    // ---- texts

    public int put(long characters) {
        return pad.append(characters);
    }

    public int wipe() {
        return pad.clear();
    }

    public int fault() {
        return pad.firstFault();
    }

    public int carryOut() {
        if (pad.firstFault() != NONE) {
            return BAD_TEXT;
        }
        history.note(yard);
        int done = 0;
        int begin = 0;
        for (int i = 0; i <= pad.length; i++) {
            if (pad.endsOrder(i)) {
                if (carryOne(begin, i) < 0) {
                    break;
                }
                done++;
                begin = i + 1;
            }
        }
        pad.clear();
        return history.kept(done);
    }

    /** Carries out the order that stands on the pad from one index up to another, and returns its answer. */
    private int carryOne(int begin, int end) {
        int track = pad.codeAt(begin + 1) - 'A';
        switch (pad.codeAt(begin)) {
            case 'p':
                return yard.takeOut(track, pad.number(begin + 2, end));
            case 'q':
                return yard.bringIn(track, pad.number(begin + 2, end));
            case 'r':
                return yard.goRound();
            case 'w':
                return yard.letPass(pad.number(begin + 1, end));
            default:
                return yard.letLeave(pad.number(begin + 1, end));
        }
    }

    // ---- undo, saving

    public int undo() {
        return history.takeBack(yard);
    }

    public int save(int slot) {
        if (slot < 0 || slot >= SLOTS) {
            return BAD_VALUE;
        }
        slots[slot].copyFrom(yard);
        saved[slot] = true;
        return yard.minute;
    }

    public int restore(int slot) {
        if (slot < 0 || slot >= SLOTS) {
            return BAD_VALUE;
        }
        if (!saved[slot]) {
            return NOT_POSSIBLE;
        }
        history.note(yard);
        yard.copyFrom(slots[slot]);
        return history.kept(yard.minute);
    }

    /** All that undo and the slots bring back, and the rules by which it changes. */
    private static final class Yard {
        private int minute;
        private int couplings;
        private int movesMade;
        private int waited;
        private int fines;
        private int trainsLeft;
        private final int[] settings = FIRST_VALUES.clone();
        private int tracks;
        private final int[] trackLength = new int[MOST_TRACKS];
        private final int[] cameOut = new int[MOST_TRACKS];
        private final int[] pushedIn = new int[MOST_TRACKS];
        private final Wagons wagons = new Wagons();
        private final Blocks blocks = new Blocks();
        private final Trains trains = new Trains();

        void copyFrom(Yard other) {
            minute = other.minute;
            couplings = other.couplings;
            movesMade = other.movesMade;
            waited = other.waited;
            fines = other.fines;
            trainsLeft = other.trainsLeft;
            System.arraycopy(other.settings, 0, settings, 0, SETTINGS);
            tracks = other.tracks;
            System.arraycopy(other.trackLength, 0, trackLength, 0, MOST_TRACKS);
            System.arraycopy(other.cameOut, 0, cameOut, 0, MOST_TRACKS);
            System.arraycopy(other.pushedIn, 0, pushedIn, 0, MOST_TRACKS);
            wagons.copyFrom(other.wagons);
            blocks.copyFrom(other.blocks);
            trains.copyFrom(other.trains);
        }

        int changeSetting(int setting, int value) {
            if (setting < 0 || setting >= SETTINGS) {
                return BAD_VALUE;
            }
            if (value < LEAST_VALUES[setting] || value > MOST_VALUES[setting]) {
                return BAD_VALUE;
            }
            int previous = settings[setting];
            settings[setting] = value;
            return previous;
        }

        boolean hasTrack(int track) {
            return track >= 0 && track < tracks;
        }

        int addTrack(int length) {
            if (length < SHORTEST_TRACK || length > LONGEST_TRACK) {
                return BAD_VALUE;
            }
            if (tracks >= MOST_TRACKS) {
                return TOO_MANY;
            }
            trackLength[tracks] = length;
            tracks++;
            return tracks - 1;
        }

        int addWagon(int track, int length) {
            if (!hasTrack(track)) {
                return NO_SUCH;
            }
            if (length < SHORTEST_WAGON || length > LONGEST_WAGON) {
                return BAD_VALUE;
            }
            if (wagons.number >= MOST_WAGONS) {
                return TOO_MANY;
            }
            if (wagons.lengthOfRow(track) + length > trackLength[track]) {
                return NOT_POSSIBLE;
            }
            return wagons.add(track, length);
        }

        int addBlock(int from, int minutes) {
            if (from < minute || from > minute + LATEST_BLOCK || minutes < 1 || minutes > LONGEST_BLOCK) {
                return BAD_VALUE;
            }
            if (blocks.number >= MOST_BLOCKS) {
                return TOO_MANY;
            }
            return blocks.add(from, from + minutes);
        }

        int takeOut(int track, int many) {
            if (!hasTrack(track)) {
                return NO_SUCH;
            }
            if (many < 1 || many > MOST_WAGONS) {
                return BAD_VALUE;
            }
            if (!canTakeOut(track, many)) {
                return NOT_POSSIBLE;
            }
            return drawOut(track, many);
        }

        boolean canTakeOut(int track, int many) {
            return many <= wagons.manyIn(track)
                && wagons.lengthOfRow(ENGINE) + wagons.lengthOfLast(track, many) <= settings[NECK];
        }

        /** Pulls wagons that are there, the neck not being asked. */
        int drawOut(int track, int many) {
            wagons.shift(track, ENGINE, many);
            wagons.notePulled(many);
            cameOut[track] += many;
            makeMove(settings[MOVE], wagons.manyIn(track) > 0 ? 2 : 1);
            return wagons.manyIn(ENGINE);
        }

        int bringIn(int track, int many) {
            if (!hasTrack(track)) {
                return NO_SUCH;
            }
            if (many < 1 || many > MOST_WAGONS) {
                return BAD_VALUE;
            }
            if (!canBringIn(track, many)) {
                return NOT_POSSIBLE;
            }
            int joints = wagons.manyIn(track) > 0 ? 2 : 1;
            wagons.shift(ENGINE, track, many);
            pushedIn[track] += many;
            makeMove(settings[MOVE], joints);
            return wagons.manyIn(ENGINE);
        }

        boolean canBringIn(int track, int many) {
            return many <= wagons.manyIn(ENGINE)
                && wagons.lengthOfRow(track) + wagons.lengthOfLast(ENGINE, many) <= trackLength[track];
        }

        int goRound() {
            if (!canGoRound()) {
                return NOT_POSSIBLE;
            }
            wagons.turnEngine();
            makeMove(settings[ROUND], 2);
            return minute;
        }

        boolean canGoRound() {
            return wagons.manyIn(ENGINE) > 0 && wagons.lengthOfRow(ENGINE) <= settings[LOOP];
        }

        private void makeMove(int minutes, int joints) {
            int takes = minutes + joints * settings[COUPLE];
            int start = blocks.firstFree(minute, takes);
            waited += start - minute;
            couplings += joints;
            movesMade++;
            comeTo(start + takes);
        }

        int letPass(int minutes) {
            if (minutes < 1 || minutes > LONGEST_PASS) {
                return BAD_VALUE;
            }
            comeTo(minute + minutes);
            return minute;
        }

        private void comeTo(int later) {
            minute = later;
            blocks.dropEnded(later);
        }

        /** Adds a train with the first wagons of a list; many is 0 if there is no list. */
        int addTrain(int[] list, int many, int due) {
            if (!areThere(list, many) || due < minute || due > minute + LATEST_DUE) {
                return BAD_VALUE;
            }
            if (trains.waiting >= MOST_TRAINS) {
                return TOO_MANY;
            }
            for (int i = 0; i < many; i++) {
                if (trains.trainOf(list[i]) != NONE) {
                    return NOT_POSSIBLE;
                }
            }
            return trains.add(list, many, due);
        }

        /** Whether the wagons of a list, one at least, are different ones that have not left. */
        private boolean areThere(int[] list, int many) {
            for (int i = 0; i < many; i++) {
                if (wagons.rowOf(list[i]) == NONE) {
                    return false;
                }
                for (int j = 0; j < i; j++) {
                    if (list[i] == list[j]) {
                        return false;
                    }
                }
            }
            return many > 0;
        }

        int strikeOut(int train) {
            if (!trains.has(train)) {
                return NO_SUCH;
            }
            trains.remove(train);
            return trains.waiting;
        }

        int letLeave(int train) {
            if (!trains.has(train)) {
                return NO_SUCH;
            }
            if (!couldLeave(train)) {
                return NOT_POSSIBLE;
            }
            int late = Math.max(0, minute - trains.due[train]);
            fines += late * settings[FINE];
            wagons.engineLeaves(minute);
            trains.remove(train);
            trainsLeft++;
            return late;
        }

        boolean couldLeave(int train) {
            int many = trains.sizeOf(train);
            return wagons.manyIn(ENGINE) == many && manyAlike(train) == many;
        }

        /** How many of the first wagons at the engine are the first ones of a train's list, in its order. */
        int manyAlike(int train) {
            int most = Math.min(wagons.manyIn(ENGINE), trains.sizeOf(train));
            for (int i = 0; i < most; i++) {
                if (wagons.wagonAt(ENGINE, i) != trains.wagonOf(train, i)) {
                    return i;
                }
            }
            return most;
        }

        int aboutTrack(int track, int what) {
            if (!hasTrack(track)) {
                return NO_SUCH;
            }
            switch (what) {
                case 0:
                    return trackLength[track];
                case 1:
                    return wagons.manyIn(track);
                case 2:
                    return wagons.lengthOfRow(track);
                case 3:
                    return cameOut[track];
                case 4:
                    return pushedIn[track];
                default:
                    return BAD_VALUE;
            }
        }

        int aboutWagon(int wagon, int what) {
            if (wagon < 0 || wagon >= wagons.number) {
                return NO_SUCH;
            }
            int row = wagons.rowOf(wagon);
            int place = row == NONE ? NONE : wagons.placeIn(row, wagon);
            switch (what) {
                case 0:
                    return wagons.length[wagon];
                case 1:
                    return row == ENGINE ? NONE : row;
                case 2:
                    return place;
                case 3:
                    return row == ENGINE ? 1 : 0;
                case 4:
                    return row == NONE ? wagons.leftAt[wagon] : NONE;
                case 5:
                    return wagons.timesPulled[wagon];
                case 6:
                    return trains.trainOf(wagon);
                case 7:
                    return row == ENGINE ? NONE : place;
                default:
                    return BAD_VALUE;
            }
        }

        int aboutTrain(int train, int what) {
            if (!trains.has(train)) {
                return NO_SUCH;
            }
            if (what < 0 || what > LONGEST_LIST + 2) {
                return BAD_VALUE;
            }
            if (what == 0) {
                return trains.sizeOf(train);
            }
            if (what == 1) {
                return trains.due[train];
            }
            return what == LONGEST_LIST + 2 ? lengthOfList(train) : trains.wagonOf(train, what - 2);
        }

        private int lengthOfList(int train) {
            int many = trains.sizeOf(train);
            int together = 0;
            for (int i = 0; i < many; i++) {
                together += wagons.lengthOfWagon(trains.wagonOf(train, i));
            }
            return together;
        }

        /** A number about the yard; those of the pad and of the history are not known here. */
        int aboutYard(int what) {
            switch (what) {
                case 0:
                    return minute;
                case 1:
                    return tracks;
                case 2:
                    return wagons.number;
                case 3:
                    return wagons.manyIn(ENGINE);
                case 4:
                    return wagons.lengthOfRow(ENGINE);
                case 5:
                    return wagons.manyGone;
                case 6:
                    return trains.waiting;
                case 7:
                    return trainsLeft;
                case 8:
                    return blocks.number;
                case 9:
                    return couplings;
                case 10:
                    return movesMade;
                case 11:
                    return waited;
                case 12:
                    return fines;
                default:
                    return what >= 15 && what < 15 + SETTINGS ? settings[what - 15] : BAD_VALUE;
            }
        }

        /** The set of the tracks into which so many wagons could be pushed at once. */
        int tracksFor(int many) {
            int set = 0;
            for (int track = 0; track < tracks; track++) {
                if (many > 0 && canBringIn(track, many)) {
                    set |= 1 << track;
                }
            }
            return set;
        }

        int manyBuried() {
            int many = 0;
            for (int track = 0; track < tracks; track++) {
                int last = wagons.manyIn(track) - 1;
                for (int place = 0; place <= last; place++) {
                    if (isBuried(track, place)) {
                        many++;
                    }
                }
            }
            return many;
        }

        private boolean isBuried(int track, int place) {
            int train = trains.trainOf(wagons.wagonAt(track, place));
            for (int i = 0; i < place && train != NONE; i++) {
                if (trains.trainOf(wagons.wagonAt(track, i)) != train) {
                    return true;
                }
            }
            return false;
        }
    }

    /**
     * All wagons, and the rows in which they stand: one for each track, and one for the engine.
     * A track's row is kept with its open end last, the engine's with its far end last:
     * so a pull and a push are both the same, wagons that go one by one from end to end.
     */
    private static final class Wagons {
        private int number;
        private int manyGone;
        private final int[] length = new int[MOST_WAGONS];
        private final int[] leftAt = new int[MOST_WAGONS];
        private final int[] timesPulled = new int[MOST_WAGONS];
        private final int[] inRow = new int[ROWS];
        private final int[] rows = new int[ROWS * MOST_WAGONS];

        void copyFrom(Wagons other) {
            number = other.number;
            manyGone = other.manyGone;
            System.arraycopy(other.length, 0, length, 0, MOST_WAGONS);
            System.arraycopy(other.leftAt, 0, leftAt, 0, MOST_WAGONS);
            System.arraycopy(other.timesPulled, 0, timesPulled, 0, MOST_WAGONS);
            System.arraycopy(other.inRow, 0, inRow, 0, ROWS);
            System.arraycopy(other.rows, 0, rows, 0, ROWS * MOST_WAGONS);
        }

        /** Adds a wagon at the end of a row; the caller has looked whether one more may be. */
        int add(int row, int itsLength) {
            length[number] = itsLength;
            rows[row * MOST_WAGONS + inRow[row]] = number;
            inRow[row]++;
            number++;
            return number - 1;
        }

        int manyIn(int row) {
            return inRow[row];
        }

        /** The wagon at a place, as the document counts places; NONE if there is none. */
        int wagonAt(int row, int place) {
            if (place < 0 || place >= inRow[row]) {
                return NONE;
            }
            int index = row == ENGINE ? place : inRow[row] - 1 - place;
            return rows[row * MOST_WAGONS + index];
        }

        /** The row in which a wagon stands; NONE if it has left, or there is no such wagon. */
        int rowOf(int wagon) {
            for (int row = 0; row < ROWS; row++) {
                if (placeIn(row, wagon) != NONE) {
                    return row;
                }
            }
            return NONE;
        }

        int placeIn(int row, int wagon) {
            int many = inRow[row];
            for (int i = 0; i < many; i++) {
                if (rows[row * MOST_WAGONS + i] == wagon) {
                    return row == ENGINE ? i : many - 1 - i;
                }
            }
            return NONE;
        }

        int lengthOfWagon(int wagon) {
            return wagon >= 0 && wagon < number ? length[wagon] : 0;
        }

        int lengthOfRow(int row) {
            int together = 0;
            for (int i = 0; i < inRow[row]; i++) {
                together += length[rows[row * MOST_WAGONS + i]];
            }
            return together;
        }

        /** The length of the last wagons of a row together; of all of them if there are not so many. */
        int lengthOfLast(int row, int many) {
            int last = row * MOST_WAGONS + inRow[row] - 1;
            int together = 0;
            for (int i = 0; i < many && i < inRow[row]; i++) {
                together += length[rows[last - i]];
            }
            return together;
        }

        /** Brings the last wagons of a row to the end of another, one after the other: so their order turns. */
        void shift(int from, int to, int many) {
            int most = Math.min(many, inRow[from]);
            for (int i = 0; i < most; i++) {
                inRow[from]--;
                rows[to * MOST_WAGONS + inRow[to]] = rows[from * MOST_WAGONS + inRow[from]];
                inRow[to]++;
            }
        }

        /** Notes for the last ones at the engine that they were pulled once more. */
        void notePulled(int many) {
            int last = ENGINE * MOST_WAGONS + inRow[ENGINE] - 1;
            for (int i = 0; i < many && i < inRow[ENGINE]; i++) {
                timesPulled[rows[last - i]]++;
            }
        }

        void turnEngine() {
            int first = ENGINE * MOST_WAGONS;
            int last = first + inRow[ENGINE] - 1;
            for (int i = 0; i < inRow[ENGINE] / 2; i++) {
                int wagon = rows[first + i];
                rows[first + i] = rows[last - i];
                rows[last - i] = wagon;
            }
        }

        void engineLeaves(int minute) {
            int many = inRow[ENGINE];
            for (int i = 0; i < many; i++) {
                leftAt[rows[ENGINE * MOST_WAGONS + i]] = minute;
            }
            manyGone += many;
            inRow[ENGINE] = 0;
        }
    }

    /** The minutes in which the neck is blocked; a block's last minute is the one before it ends. */
    private static final class Blocks {
        private int number;
        private final int[] begins = new int[MOST_BLOCKS];
        private final int[] ends = new int[MOST_BLOCKS];

        void copyFrom(Blocks other) {
            number = other.number;
            System.arraycopy(other.begins, 0, begins, 0, MOST_BLOCKS);
            System.arraycopy(other.ends, 0, ends, 0, MOST_BLOCKS);
        }

        /** Adds a block; the caller has looked whether one more may be. */
        int add(int begin, int end) {
            begins[number] = begin;
            ends[number] = end;
            number++;
            return number;
        }

        void dropEnded(int minute) {
            int stay = 0;
            for (int i = 0; i < number; i++) {
                if (ends[i] > minute) {
                    begins[stay] = begins[i];
                    ends[stay] = ends[i];
                    stay++;
                }
            }
            number = stay;
        }

        int firstFree(int minute, int minutes) {
            int start = minute;
            // A block that has put the start off lies behind it from then on: so many turns are enough.
            for (int turn = 0; turn < number; turn++) {
                for (int i = 0; i < number; i++) {
                    if (begins[i] < start + minutes && ends[i] > start) {
                        start = ends[i];
                    }
                }
            }
            return start;
        }
    }

    /** The trains that wait, and their lists. */
    private static final class Trains {
        private int waiting;
        private final int[] due = new int[MOST_TRAINS];
        private final int[] size = new int[MOST_TRAINS];
        private final int[] lists = new int[MOST_TRAINS * LONGEST_LIST];

        void copyFrom(Trains other) {
            waiting = other.waiting;
            System.arraycopy(other.due, 0, due, 0, MOST_TRAINS);
            System.arraycopy(other.size, 0, size, 0, MOST_TRAINS);
            System.arraycopy(other.lists, 0, lists, 0, MOST_TRAINS * LONGEST_LIST);
        }

        boolean has(int train) {
            return train >= 0 && train < waiting;
        }

        int sizeOf(int train) {
            return has(train) ? size[train] : 0;
        }

        /** The wagon at a place of a train's list; NONE if there are not so many. */
        int wagonOf(int train, int place) {
            boolean isThere = has(train) && place >= 0 && place < size[train];
            return isThere ? lists[train * LONGEST_LIST + place] : NONE;
        }

        /** The train that waits for a wagon; NONE if there is none. */
        int trainOf(int wagon) {
            for (int train = 0; train < waiting; train++) {
                for (int i = 0; i < size[train]; i++) {
                    if (lists[train * LONGEST_LIST + i] == wagon) {
                        return train;
                    }
                }
            }
            return NONE;
        }

        /** Adds a train; the caller has looked whether one more may be. */
        int add(int[] list, int many, int itsDue) {
            due[waiting] = itsDue;
            size[waiting] = many;
            System.arraycopy(list, 0, lists, waiting * LONGEST_LIST, many);
            waiting++;
            return waiting - 1;
        }

        void remove(int train) {
            waiting--;
            for (int i = train; i < waiting; i++) {
                due[i] = due[i + 1];
                size[i] = size[i + 1];
                System.arraycopy(lists, (i + 1) * LONGEST_LIST, lists, i * LONGEST_LIST, LONGEST_LIST);
            }
        }
    }

    /** Tries moves on a copy of the yard. */
    private static final class Trial {
        private final Yard copy = new Yard();

        /** The fewest pulls that get a train's list, the neck not being asked, or NONE; the copy has made them then. */
        int fewestPulls(Yard yard, int train) {
            copy.copyFrom(yard);
            if (copy.manyAlike(train) != copy.wagons.manyIn(ENGINE)) {
                return NONE;
            }
            for (int pulls = 0; pulls <= LONGEST_LIST; pulls++) {
                int got = copy.wagons.manyIn(ENGINE);
                if (got == copy.trains.sizeOf(train)) {
                    return pulls;
                }
                int track = trackOfNext(train, got);
                int many = track == NONE ? 0 : manyNext(train, got, track);
                if (many == 0) {
                    return NONE;
                }
                copy.drawOut(track, many);
            }
            return NONE;
        }

        /** The track on which the next wagon of a list stands; NONE if it stands on none. */
        private int trackOfNext(int train, int got) {
            int row = copy.wagons.rowOf(copy.trains.wagonOf(train, got));
            return row == ENGINE ? NONE : row;
        }

        /** How many next wagons of a list stand behind one another from the open end of a track on. */
        private int manyNext(int train, int got, int track) {
            int most = Math.min(copy.wagons.manyIn(track), copy.trains.sizeOf(train) - got);
            for (int i = 0; i < most; i++) {
                if (copy.wagons.wagonAt(track, i) != copy.trains.wagonOf(train, got + i)) {
                    return i;
                }
            }
            return most;
        }

        /** The fewest moves, up to 2, after which a train could leave; NONE if 2 are not enough. */
        int fewestMoves(Yard yard, int train) {
            copy.copyFrom(yard);
            if (copy.couldLeave(train)) {
                return 0;
            }
            if (couldAfterOne(train)) {
                return 1;
            }
            for (int track = 0; track < copy.tracks; track++) {
                if (couldAfterTakingOut(train, track) || couldAfterBringingIn(train, track)) {
                    return 2;
                }
            }
            return couldAfterGoingRound(train) ? 2 : NONE;
        }

        // Each of these makes a first move, looks whether one more is enough, and takes the first one back.

        private boolean couldAfterTakingOut(int train, int track) {
            int most = copy.wagons.manyIn(track);
            boolean could = false;
            for (int many = 1; many <= most && !could; many++) {
                if (copy.canTakeOut(track, many)) {
                    copy.wagons.shift(track, ENGINE, many);
                    could = couldAfterOne(train);
                    copy.wagons.shift(ENGINE, track, many);
                }
            }
            return could;
        }

        private boolean couldAfterBringingIn(int train, int track) {
            int most = copy.wagons.manyIn(ENGINE);
            boolean could = false;
            for (int many = 1; many <= most && !could; many++) {
                if (copy.canBringIn(track, many)) {
                    copy.wagons.shift(ENGINE, track, many);
                    could = couldAfterOne(train);
                    copy.wagons.shift(track, ENGINE, many);
                }
            }
            return could;
        }

        private boolean couldAfterGoingRound(int train) {
            if (!copy.canGoRound()) {
                return false;
            }
            copy.wagons.turnEngine();
            boolean could = couldAfterOne(train);
            copy.wagons.turnEngine();
            return could;
        }

        /** Whether one move makes the wagons at the engine those of a list; how many they are tells which move. */
        private boolean couldAfterOne(int train) {
            int have = copy.wagons.manyIn(ENGINE);
            int want = copy.trains.sizeOf(train);
            if (have == want) {
                return copy.canGoRound() && isTurned(train);
            }
            if (copy.manyAlike(train) < Math.min(have, want)) {
                return false;
            }
            if (have > want) {
                return copy.tracksFor(have - want) != 0;
            }
            int track = trackOfNext(train, have);
            int missing = want - have;
            return track != NONE && manyNext(train, have, track) == missing && copy.canTakeOut(track, missing);
        }

        private boolean isTurned(int train) {
            int many = copy.trains.sizeOf(train);
            for (int i = 0; i < many; i++) {
                if (copy.wagons.wagonAt(ENGINE, many - 1 - i) != copy.trains.wagonOf(train, i)) {
                    return false;
                }
            }
            return true;
        }
    }

    /** The latest states, the oldest one first, and a spare one behind them. */
    private static final class History {
        private int number;
        private final Yard[] states = new Yard[MOST_STATES + 1];

        History() {
            for (int i = 0; i <= MOST_STATES; i++) {
                states[i] = new Yard();
            }
        }

        /** Notes the state before a call in the spare one; it counts only once it is kept. */
        void note(Yard yard) {
            states[number].copyFrom(yard);
        }

        /** Keeps what was noted if the answer of the call is no error, and hands the answer on. */
        int kept(int answer) {
            if (answer < 0) {
                return answer;
            }
            if (number < MOST_STATES) {
                number++;
            } else {
                dropOldest();
            }
            return answer;
        }

        private void dropOldest() {
            Yard oldest = states[0];
            for (int i = 0; i < MOST_STATES; i++) {
                states[i] = states[i + 1];
            }
            states[MOST_STATES] = oldest;
        }

        int takeBack(Yard yard) {
            if (number == 0) {
                return NOT_POSSIBLE;
            }
            number--;
            yard.copyFrom(states[number]);
            return number;
        }
    }

    /** The text of orders. */
    private static final class Pad {
        // What is due at a place, by what stands before it; WRONG behind a character that was not due.
        private static final int ORDER = 0, LETTER = 1, NUMBER = 2, DIGIT_OR_END = 3, END = 4, WRONG = 5;

        private int length;
        private final char[] text = new char[LONGEST_PAD];

        int append(long told) {
            int many = manyTold(told);
            if (many == 0) {
                return BAD_VALUE;
            }
            if (length + many > LONGEST_PAD) {
                return TOO_MANY;
            }
            for (int i = 0; i < many; i++) {
                text[length + i] = (char) (told >>> 8 * (many - 1 - i) & 255);
            }
            length += many;
            return length;
        }

        /** How many characters a number tells; 0 if it tells none, or anything that is no character. */
        private static int manyTold(long told) {
            long rest = told;
            int many = 0;
            for (int i = 0; i < MOST_CHARACTERS && rest != 0; i++) {
                long code = rest & 255;
                if (code < FIRST_CODE || code > LAST_CODE) {
                    return 0;
                }
                many++;
                rest >>>= 8;
            }
            return many;
        }

        int clear() {
            int before = length;
            length = 0;
            return before;
        }

        /** The character at an index; 0 outside the text. */
        int codeAt(int index) {
            return index >= 0 && index < length ? text[index] : 0;
        }

        boolean endsOrder(int index) {
            return index == length || codeAt(index) == ';';
        }

        int number(int begin, int end) {
            int number = 0;
            for (int i = begin; i < end; i++) {
                number = number * 10 + codeAt(i) - '0';
            }
            return number;
        }

        int firstFault() {
            int due = ORDER;
            for (int i = 0; i < length; i++) {
                due = dueBehind(due, text[i]);
                if (due == WRONG) {
                    return i;
                }
            }
            return due == DIGIT_OR_END || due == END ? NONE : length;
        }

        /** What is due behind a character, at whose own place something was due. */
        private static int dueBehind(int due, int code) {
            switch (due) {
                case ORDER:
                    return dueBehindKind(code);
                case LETTER:
                    return code >= 'A' && code <= 'H' ? NUMBER : WRONG;
                case NUMBER:
                    return code == '0' ? END : isDigit(code) ? DIGIT_OR_END : WRONG;
                case DIGIT_OR_END:
                    return isDigit(code) ? END : code == ';' ? ORDER : WRONG;
                default:
                    return code == ';' ? ORDER : WRONG;
            }
        }

        private static int dueBehindKind(int kind) {
            switch (kind) {
                case 'p':
                case 'q':
                    return LETTER;
                case 'r':
                    return END;
                case 'w':
                case 't':
                    return NUMBER;
                default:
                    return WRONG;
            }
        }

        private static boolean isDigit(int code) {
            return code >= '0' && code <= '9';
        }
    }
}
