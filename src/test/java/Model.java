import java.util.ArrayDeque;
import java.util.ArrayList;
import java.util.Collections;
import java.util.Deque;
import java.util.HashSet;
import java.util.List;
import java.util.regex.Pattern;

/** The same yard, written in the plainest way: each state is a copy, and what could be is found by trying all. */
final class Model {
    private static final int NO_SUCH = -1, BAD_VALUE = -2, BAD_TEXT = -3, TOO_MANY = -4, NOT_POSSIBLE = -5, NONE = -6;
    private static final int[][] RANGES = {{4, 60}, {2, 60}, {1, 20}, {0, 10}, {1, 60}, {0, 1000}};

    private static final class Wagon {
        int length, left = NONE, pulled = 0;
    }

    private static final class Track {
        int length, out = 0, in = 0;
        List<Integer> row = new ArrayList<>();
    }

    private static final class Train {
        List<Integer> list;
        int due;
    }

    private static final class State {
        int minute, couplings, moves, waited, fines, trainsLeft;
        int[] settings = {16, 12, 4, 1, 9, 20};
        List<Wagon> wagons = new ArrayList<>();
        List<Track> tracks = new ArrayList<>();
        List<Integer> engine = new ArrayList<>();
        List<Train> trains = new ArrayList<>();
        List<int[]> blocks = new ArrayList<>();

        State copy() {
            State s = new State();
            s.minute = minute;
            s.couplings = couplings;
            s.moves = moves;
            s.waited = waited;
            s.fines = fines;
            s.trainsLeft = trainsLeft;
            s.settings = settings.clone();
            for (Wagon w : wagons) {
                Wagon v = new Wagon();
                v.length = w.length;
                v.left = w.left;
                v.pulled = w.pulled;
                s.wagons.add(v);
            }
            for (Track t : tracks) {
                Track u = new Track();
                u.length = t.length;
                u.out = t.out;
                u.in = t.in;
                u.row.addAll(t.row);
                s.tracks.add(u);
            }
            s.engine.addAll(engine);
            s.trains.addAll(trains);
            s.blocks.addAll(blocks);
            return s;
        }

        int together(List<Integer> row) {
            return row.stream().mapToInt(w -> wagons.get(w).length).sum();
        }

        boolean has(int track) {
            return track >= 0 && track < tracks.size();
        }

        int free(int minutes) {
            for (int from = minute;; from++) {
                int to = from + minutes;
                int start = from;
                if (blocks.stream().noneMatch(b -> b[0] < to && start < b[1])) {
                    return from;
                }
            }
        }

        void come(int later) {
            minute = later;
            blocks.removeIf(b -> b[1] <= later);
        }

        void move(int base, int joints) {
            int takes = base + joints * settings[3];
            int start = free(takes);
            waited += start - minute;
            couplings += joints;
            moves++;
            come(start + takes);
        }

        int pull(int track, int many, boolean neckAsked) {
            if (!has(track)) {
                return NO_SUCH;
            }
            if (many < 1 || many > 30) {
                return BAD_VALUE;
            }
            List<Integer> row = tracks.get(track).row;
            if (many > row.size()) {
                return NOT_POSSIBLE;
            }
            List<Integer> taken = new ArrayList<>(row.subList(0, many));
            if (neckAsked && together(engine) + together(taken) > settings[0]) {
                return NOT_POSSIBLE;
            }
            row.subList(0, many).clear();
            engine.addAll(taken);
            taken.forEach(w -> wagons.get(w).pulled++);
            tracks.get(track).out += many;
            move(settings[2], row.isEmpty() ? 1 : 2);
            return engine.size();
        }

        int push(int track, int many) {
            if (!has(track)) {
                return NO_SUCH;
            }
            if (many < 1 || many > 30) {
                return BAD_VALUE;
            }
            if (many > engine.size()) {
                return NOT_POSSIBLE;
            }
            List<Integer> row = tracks.get(track).row;
            List<Integer> last = new ArrayList<>(engine.subList(engine.size() - many, engine.size()));
            if (together(row) + together(last) > tracks.get(track).length) {
                return NOT_POSSIBLE;
            }
            int joints = row.isEmpty() ? 1 : 2;
            engine.subList(engine.size() - many, engine.size()).clear();
            row.addAll(0, last);
            tracks.get(track).in += many;
            move(settings[2], joints);
            return engine.size();
        }

        int round() {
            if (engine.isEmpty() || together(engine) > settings[1]) {
                return NOT_POSSIBLE;
            }
            Collections.reverse(engine);
            move(settings[4], 2);
            return minute;
        }

        int pass(int minutes) {
            if (minutes < 1 || minutes > 999) {
                return BAD_VALUE;
            }
            come(minute + minutes);
            return minute;
        }

        int leave(int train) {
            if (train < 0 || train >= trains.size()) {
                return NO_SUCH;
            }
            if (!engine.equals(trains.get(train).list)) {
                return NOT_POSSIBLE;
            }
            int late = Math.max(0, minute - trains.get(train).due);
            fines += settings[5] * late;
            engine.forEach(w -> wagons.get(w).left = minute);
            engine.clear();
            trains.remove(train);
            trainsLeft++;
            return late;
        }

        int trainOf(int wagon) {
            for (int i = 0; i < trains.size(); i++) {
                if (trains.get(i).list.contains(wagon)) {
                    return i;
                }
            }
            return NONE;
        }

        List<State> afterAnyMove() {
            List<State> all = new ArrayList<>();
            for (int track = 0; track < tracks.size(); track++) {
                for (int many = 1; many <= Math.max(engine.size(), tracks.get(track).row.size()); many++) {
                    State pulled = copy();
                    if (pulled.pull(track, many, true) >= 0) {
                        all.add(pulled);
                    }
                    State pushed = copy();
                    if (pushed.push(track, many) >= 0) {
                        all.add(pushed);
                    }
                }
            }
            State turned = copy();
            if (turned.round() >= 0) {
                all.add(turned);
            }
            return all;
        }

        /** All states in which the list has been got by so many pulls, whatever they are. */
        List<State> afterPulls(List<Integer> list, int pulls) {
            List<State> all = new ArrayList<>();
            if (engine.size() > list.size() || !engine.equals(list.subList(0, engine.size()))) {
                return all;
            }
            if (pulls == 0) {
                if (engine.equals(list)) {
                    all.add(this);
                }
                return all;
            }
            for (int track = 0; track < tracks.size(); track++) {
                for (int many = 1; many <= Math.min(8, tracks.get(track).row.size()); many++) {
                    State next = copy();
                    next.pull(track, many, false);
                    all.addAll(next.afterPulls(list, pulls - 1));
                }
            }
            return all;
        }
    }

    private State now = new State();
    private final Deque<State> history = new ArrayDeque<>();
    private final State[] slots = new State[2];
    private String pad = "";

    private int changed(State before, int answer) {
        if (answer >= 0) {
            history.addLast(before);
            if (history.size() > 6) {
                history.removeFirst();
            }
        }
        return answer;
    }

    int set(int setting, int value) {
        if (setting < 0 || setting > 5 || value < RANGES[setting][0] || value > RANGES[setting][1]) {
            return BAD_VALUE;
        }
        State before = now.copy();
        int previous = now.settings[setting];
        now.settings[setting] = value;
        return changed(before, previous);
    }

    int track(int length) {
        if (length < 4 || length > 60) {
            return BAD_VALUE;
        }
        if (now.tracks.size() == 8) {
            return TOO_MANY;
        }
        State before = now.copy();
        Track t = new Track();
        t.length = length;
        now.tracks.add(t);
        return changed(before, now.tracks.size() - 1);
    }

    int wagon(int track, int length) {
        if (!now.has(track)) {
            return NO_SUCH;
        }
        if (length < 1 || length > 4) {
            return BAD_VALUE;
        }
        if (now.wagons.size() == 30) {
            return TOO_MANY;
        }
        Track t = now.tracks.get(track);
        if (now.together(t.row) + length > t.length) {
            return NOT_POSSIBLE;
        }
        State before = now.copy();
        Wagon w = new Wagon();
        w.length = length;
        now.wagons.add(w);
        t.row.add(0, now.wagons.size() - 1);
        return changed(before, now.wagons.size() - 1);
    }

    int block(int from, int minutes) {
        if (from < now.minute || from - now.minute > 2000 || minutes < 1 || minutes > 500) {
            return BAD_VALUE;
        }
        if (now.blocks.size() == 10) {
            return TOO_MANY;
        }
        State before = now.copy();
        now.blocks.add(new int[] {from, from + minutes});
        return changed(before, now.blocks.size());
    }

    int pull(int track, int many) {
        State before = now.copy();
        return changed(before, now.pull(track, many, true));
    }

    int push(int track, int many) {
        State before = now.copy();
        return changed(before, now.push(track, many));
    }

    int round() {
        State before = now.copy();
        return changed(before, now.round());
    }

    int pass(int minutes) {
        State before = now.copy();
        return changed(before, now.pass(minutes));
    }

    int train(long wagons, int due) {
        List<Integer> list = new ArrayList<>();
        String digits = wagons <= 0 ? "0" : new StringBuilder(Long.toString(wagons, 31)).reverse().toString();
        for (char digit : digits.toCharArray()) {
            list.add(Character.digit(digit, 31) - 1);
        }
        boolean good = list.size() <= 8 && new HashSet<>(list).size() == list.size();
        for (int wagon : list) {
            good = good && wagon >= 0 && wagon < now.wagons.size() && now.wagons.get(wagon).left == NONE;
        }
        if (!good || due < now.minute || due - now.minute > 5000) {
            return BAD_VALUE;
        }
        if (now.trains.size() == 8) {
            return TOO_MANY;
        }
        for (Train train : now.trains) {
            if (!Collections.disjoint(train.list, list)) {
                return NOT_POSSIBLE;
            }
        }
        State before = now.copy();
        Train t = new Train();
        t.list = list;
        t.due = due;
        now.trains.add(t);
        return changed(before, now.trains.size() - 1);
    }

    private boolean waits(int train) {
        return train >= 0 && train < now.trains.size();
    }

    int strike(int train) {
        if (!waits(train)) {
            return NO_SUCH;
        }
        State before = now.copy();
        now.trains.remove(train);
        return changed(before, now.trains.size());
    }

    int leave(int train) {
        State before = now.copy();
        return changed(before, now.leave(train));
    }

    int ofTrack(int track, int what) {
        if (!now.has(track)) {
            return NO_SUCH;
        }
        Track t = now.tracks.get(track);
        int[] all = {t.length, t.row.size(), now.together(t.row), t.out, t.in};
        return what < 0 || what > 4 ? BAD_VALUE : all[what];
    }

    int at(int track, int place) {
        if (track != NONE && !now.has(track)) {
            return NO_SUCH;
        }
        List<Integer> row = track == NONE ? now.engine : now.tracks.get(track).row;
        return place < 0 || place >= row.size() ? NONE : row.get(place);
    }

    int ofWagon(int wagon, int what) {
        if (wagon < 0 || wagon >= now.wagons.size()) {
            return NO_SUCH;
        }
        int track = NONE;
        int place = NONE;
        for (int i = 0; i < now.tracks.size(); i++) {
            if (now.tracks.get(i).row.contains(wagon)) {
                track = i;
                place = now.tracks.get(i).row.indexOf(wagon);
            }
        }
        int above = place;
        if (now.engine.contains(wagon)) {
            place = now.engine.indexOf(wagon);
        }
        Wagon w = now.wagons.get(wagon);
        int[] all = {w.length, track, place, now.engine.contains(wagon) ? 1 : 0, w.left, w.pulled, now.trainOf(wagon), above};
        return what < 0 || what > 7 ? BAD_VALUE : all[what];
    }

    int ofTrain(int train, int what) {
        if (!waits(train)) {
            return NO_SUCH;
        }
        if (what < 0 || what > 10) {
            return BAD_VALUE;
        }
        Train t = now.trains.get(train);
        if (what < 2) {
            return what == 0 ? t.list.size() : t.due;
        }
        if (what == 10) {
            return now.together(t.list);
        }
        return what - 2 < t.list.size() ? t.list.get(what - 2) : NONE;
    }

    int count(int what) {
        int gone = (int) now.wagons.stream().filter(w -> w.left != NONE).count();
        int[] all = {
            now.minute, now.tracks.size(), now.wagons.size(), now.engine.size(), now.together(now.engine), gone,
            now.trains.size(), now.trainsLeft, now.blocks.size(), now.couplings, now.moves, now.waited, now.fines,
            pad.length(), history.size(), now.settings[0], now.settings[1], now.settings[2], now.settings[3],
            now.settings[4], now.settings[5],
        };
        return what < 0 || what > 20 ? BAD_VALUE : all[what];
    }

    int freeFrom(int minutes) {
        return minutes < 1 || minutes > 500 ? BAD_VALUE : now.free(minutes);
    }

    private List<State> byFewestPulls(int train) {
        for (int pulls = 0; pulls <= 8; pulls++) {
            List<State> got = now.afterPulls(now.trains.get(train).list, pulls);
            if (!got.isEmpty()) {
                return got;
            }
        }
        return List.of();
    }

    int straight(int train) {
        return !waits(train) ? NO_SUCH : byFewestPulls(train).isEmpty() ? 0 : 1;
    }

    int pulls(int train) {
        if (!waits(train)) {
            return NO_SUCH;
        }
        List<State> got = byFewestPulls(train);
        return got.isEmpty() ? NONE : got.get(0).moves - now.moves;
    }

    int wouldLeave(int train) {
        if (!waits(train)) {
            return NO_SUCH;
        }
        List<State> got = byFewestPulls(train);
        return got.isEmpty() ? NONE : got.stream().mapToInt(s -> s.minute).min().getAsInt();
    }

    int moves(int train) {
        if (!waits(train)) {
            return NO_SUCH;
        }
        List<Integer> list = now.trains.get(train).list;
        List<State> reached = List.of(now);
        for (int moves = 0; moves <= 2; moves++) {
            List<State> next = new ArrayList<>();
            for (State s : reached) {
                if (s.engine.equals(list)) {
                    return moves;
                }
                if (moves < 2) {
                    next.addAll(s.afterAnyMove());
                }
            }
            reached = next;
        }
        return NONE;
    }

    int roomFor() {
        int set = 0;
        for (int track = 0; track < now.tracks.size(); track++) {
            if (!now.engine.isEmpty() && now.copy().push(track, now.engine.size()) >= 0) {
                set += 1 << track;
            }
        }
        return set;
    }

    int buried() {
        int buried = 0;
        for (Train train : now.trains) {
            for (Track track : now.tracks) {
                for (int place = 0; place < track.row.size(); place++) {
                    boolean below = !train.list.containsAll(track.row.subList(0, place));
                    buried += train.list.contains(track.row.get(place)) && below ? 1 : 0;
                }
            }
        }
        return buried;
    }

    int put(long characters) {
        StringBuilder text = new StringBuilder();
        boolean ended = false;
        for (int i = 0; i < 8; i++) {
            int code = (int) (characters >> 8 * i) & 255;
            ended = ended || code == 0;
            if (ended ? code != 0 : code < 33 || code > 126) {
                return BAD_VALUE;
            }
            if (code != 0) {
                text.insert(0, (char) code);
            }
        }
        if (text.length() == 0) {
            return BAD_VALUE;
        }
        if (pad.length() + text.length() > 80) {
            return TOO_MANY;
        }
        pad += text;
        return pad.length();
    }

    int wipe() {
        int before = pad.length();
        pad = "";
        return before;
    }

    private static final Pattern ORDERS =
        Pattern.compile("([pq][A-H](0|[1-9][0-9]?)|r|[wt](0|[1-9][0-9]?))(;([pq][A-H](0|[1-9][0-9]?)|r|[wt](0|[1-9][0-9]?)))*");

    private static final Pattern BEGINNINGS = Pattern.compile(
        "(([pq][A-H](0|[1-9][0-9]?)|r|[wt](0|[1-9][0-9]?));)*([pq]([A-H](0|[1-9][0-9]?)?)?|r|[wt](0|[1-9][0-9]?)?)?");

    int fault() {
        for (int i = 0; i < pad.length(); i++) {
            if (!BEGINNINGS.matcher(pad.substring(0, i + 1)).matches()) {
                return i;
            }
        }
        return ORDERS.matcher(pad).matches() ? NONE : pad.length();
    }

    int carryOut() {
        if (fault() != NONE) {
            return BAD_TEXT;
        }
        State before = now.copy();
        int done = 0;
        for (String order : pad.split(";")) {
            if (carryOut(order) < 0) {
                break;
            }
            done++;
        }
        pad = "";
        return changed(before, done);
    }

    private int carryOut(String order) {
        switch (order.charAt(0)) {
            case 'p':
                return now.pull(order.charAt(1) - 'A', Integer.parseInt(order.substring(2)), true);
            case 'q':
                return now.push(order.charAt(1) - 'A', Integer.parseInt(order.substring(2)));
            case 'r':
                return now.round();
            case 'w':
                return now.pass(Integer.parseInt(order.substring(1)));
            default:
                return now.leave(Integer.parseInt(order.substring(1)));
        }
    }

    int undo() {
        if (history.isEmpty()) {
            return NOT_POSSIBLE;
        }
        now = history.removeLast();
        return history.size();
    }

    int save(int slot) {
        if (slot < 0 || slot > 1) {
            return BAD_VALUE;
        }
        slots[slot] = now.copy();
        return now.minute;
    }

    int restore(int slot) {
        if (slot < 0 || slot > 1) {
            return BAD_VALUE;
        }
        if (slots[slot] == null) {
            return NOT_POSSIBLE;
        }
        State before = now;
        now = slots[slot].copy();
        return changed(before, now.minute);
    }
}
