import java.util.Random;

/** Runs of 512 calls, chosen by a fixed seed, each asked of the class and of the model. */
public final class ModelTest {
    private static final int RUNS = 400, CALLS = 512;
    private static final String[] KINDS = {
        "set", "track", "wagon", "block", "pull", "push", "round", "pass", "train", "strike", "leave", "ofTrack", "at",
        "ofWagon", "ofTrain", "count", "freeFrom", "straight", "pulls", "wouldLeave", "moves", "roomFor", "buried", "put",
        "wipe", "fault", "carryOut", "undo", "save", "restore",
    };
    // How often each kind is chosen: in a yard that is built, one that is worked in, and one that is only asked.
    private static final int[][] WEIGHTS = {
        {3, 9, 40, 3, 12, 6, 3, 2, 15, 2, 6, 2, 2, 2, 2, 4, 1, 3, 3, 3, 6, 2, 3, 6, 1, 3, 2, 2, 2, 2},
        {2, 1, 4, 3, 30, 22, 10, 3, 16, 3, 25, 2, 4, 4, 2, 6, 2, 4, 5, 6, 14, 3, 4, 12, 1, 4, 5, 3, 2, 2},
        {5, 5, 5, 5, 5, 5, 5, 5, 5, 5, 5, 5, 5, 5, 5, 5, 5, 5, 5, 5, 5, 5, 5, 5, 5, 5, 5, 5, 5, 5},
    };
    private static final int[] ODD = {-1, -2, -6, -7, 8, 30, 31, 61, 501, 1001, Integer.MAX_VALUE, Integer.MIN_VALUE};
    private static final String[] TEXTS = {"p", "q", "A", "B", "C", "H", "I", "r", "w", "t", ";", "0", "1", "2", "9", "99", " "};

    private static final Check c = new Check();
    private static int[] answered = new int[KINDS.length];

    private final Random random;
    private final PickupYard x = new PickupYard();
    private final Model model = new Model();

    private ModelTest(int seed) {
        random = new Random(seed);
    }

    public static void main(String[] args) {
        for (int seed = 0; seed < RUNS && c.wrong() == 0; seed++) {
            new ModelTest(seed).run(seed);
        }
        anyCalls();
        for (int kind = 0; kind < KINDS.length; kind++) {
            c.holds("calls of " + KINDS[kind] + " that were no error", answered[kind] > 0);
        }
        c.end("ModelTest");
    }

    private void run(int seed) {
        for (int i = 0; i < CALLS && c.wrong() == 0; i++) {
            int phase = i < 120 ? 0 : seed % 5 == 0 ? 2 : 1;
            call("run " + seed + ", call " + i + ": ", chosen(WEIGHTS[phase]));
        }
    }

    /** Far beyond the 512 calls the answers are free, but no call may throw. */
    private static void anyCalls() {
        ModelTest test = new ModelTest(-1);
        Random random = test.random;
        for (int i = 0; i < 300000; i++) {
            int a = random.nextInt(3) == 0 ? ODD[random.nextInt(ODD.length)] : random.nextInt(10);
            int b = random.nextInt(3) == 0 ? ODD[random.nextInt(ODD.length)] : random.nextInt(10);
            test.asked(KINDS[random.nextInt(KINDS.length)], a, b, random.nextLong() >>> random.nextInt(64));
        }
        for (int i = 0; i < 2200000; i++) {
            test.x.pass(999);
        }
        for (int i = 0; i < 300000; i++) {
            int a = random.nextBoolean() ? test.x.count(0) + random.nextInt(99) : random.nextInt(10);
            int b = random.nextBoolean() ? test.x.count(0) + random.nextInt(99) : random.nextInt(10);
            test.asked(KINDS[random.nextInt(KINDS.length)], a, b, random.nextInt(1000));
        }
    }

    private int chosen(int[] weights) {
        int all = 0;
        for (int weight : weights) {
            all += weight;
        }
        int left = random.nextInt(all);
        for (int kind = 0; kind < weights.length; kind++) {
            left -= weights[kind];
            if (left < 0) {
                return kind;
            }
        }
        return 0;
    }

    /** A number from a range, or now and then another one. */
    private int number(int from, int to) {
        int roll = random.nextInt(40);
        if (roll == 0) {
            return ODD[random.nextInt(ODD.length)];
        }
        if (roll == 1) {
            return random.nextBoolean() ? from - 1 : to + 1;
        }
        return from + random.nextInt(Math.max(1, to - from + 1));
    }

    private int aTrack() {
        return number(0, Math.max(0, x.count(1) - 1));
    }

    private int aTrain() {
        return number(0, Math.max(0, x.count(6) - 1));
    }

    private int aFew() {
        return random.nextInt(4) == 0 ? number(1, 8) : number(1, 3);
    }

    /** A list, most often of wagons that could be got. */
    private long aList() {
        int size = random.nextInt(5) == 0 ? number(1, 9) : 1 + random.nextInt(3);
        int[] list = new int[Math.max(0, Math.min(9, size))];
        int[] places = new int[8];
        int track = random.nextInt(Math.max(1, x.count(1)));
        boolean fromEngine = random.nextBoolean() && x.count(3) > 0;
        for (int i = 0; i < list.length; i++) {
            int wagon = fromEngine && i < x.count(3) ? x.at(-6, i) : x.at(track, places[track]++);
            if (random.nextInt(3) == 0) {
                track = random.nextInt(Math.max(1, x.count(1)));
            }
            list[i] = wagon >= 0 && random.nextInt(30) != 0 ? wagon : random.nextInt(31);
        }
        if (random.nextInt(4) == 0 && list.length > 1) {
            // What is in another order wants going round, or cannot be got.
            int first = list[0];
            list[0] = list[list.length - 1];
            list[list.length - 1] = first;
        }
        return random.nextInt(40) == 0 ? random.nextLong() : Check.list(list);
    }

    private long someCharacters() {
        if (random.nextInt(20) == 0) {
            return random.nextLong() >>> random.nextInt(64);
        }
        if (random.nextInt(4) == 0) {
            return Check.characters(TEXTS[random.nextInt(TEXTS.length)]);
        }
        char track = (char) ('A' + random.nextInt(Math.max(1, x.count(1))));
        String[] orders = {"p" + track + aDigit(), "q" + track + aDigit(), "r", "w" + random.nextInt(100), "t" + random.nextInt(3)};
        String order = orders[random.nextInt(orders.length)];
        return Check.characters(x.count(13) > 0 ? ";" + order : order);
    }

    private int aDigit() {
        return random.nextInt(3) == 0 ? random.nextInt(10) : 1;
    }

    private void call(String where, int kind) {
        int a = 0;
        int b = 0;
        long l = 0;
        int now = x.count(0);
        switch (KINDS[kind]) {
            case "set":
                a = number(0, 5);
                b = number(0, new int[] {40, 40, 20, 10, 60, 1000}[Math.floorMod(a, 6)]);
                break;
            case "track":
                a = number(4, random.nextBoolean() ? 12 : 60);
                break;
            case "wagon":
                a = aTrack();
                b = number(1, random.nextBoolean() ? 2 : 4);
                break;
            case "block":
                a = number(now, now + (random.nextInt(4) == 0 ? 2000 : 60));
                b = random.nextInt(4) == 0 ? number(1, 500) : number(1, 12);
                break;
            case "pull":
            case "push":
                a = aTrack();
                b = aFew();
                break;
            case "pass":
                a = random.nextInt(4) == 0 ? number(1, 999) : number(1, 30);
                break;
            case "train":
                l = aList();
                b = random.nextInt(4) == 0 ? number(now, now + 5000) : number(now, now + 60);
                break;
            case "ofTrack":
                a = aTrack();
                b = number(0, 4);
                break;
            case "at":
                a = random.nextInt(4) == 0 ? -6 : aTrack();
                b = number(0, 6);
                break;
            case "ofWagon":
                a = number(0, Math.max(0, x.count(2) - 1));
                b = number(0, 7);
                break;
            case "ofTrain":
                a = aTrain();
                b = number(0, 10);
                break;
            case "count":
                a = number(0, 20);
                break;
            case "freeFrom":
                a = random.nextBoolean() ? number(1, 20) : number(1, 500);
                break;
            case "put":
                l = someCharacters();
                break;
            case "save":
            case "restore":
                a = number(0, 1);
                break;
            default:
                a = aTrain();
        }
        int got = asked(KINDS[kind], a, b, l);
        answered[kind] += got >= 0 ? 1 : 0;
        c.due(where + KINDS[kind] + "(" + a + ", " + b + ", " + l + ")", got, due(KINDS[kind], a, b, l));
        for (int what = 0; what <= 20; what++) {
            c.due(where + "count(" + what + ") behind " + KINDS[kind], x.count(what), model.count(what));
        }
        for (int wagon = 0; wagon < x.count(2); wagon++) {
            for (int what = 0; what <= 7; what++) {
                c.due(where + "ofWagon behind " + KINDS[kind], x.ofWagon(wagon, what), model.ofWagon(wagon, what));
            }
        }
        for (int track = 0; track < x.count(1); track++) {
            for (int what = 0; what <= 4; what++) {
                c.due(where + "ofTrack behind " + KINDS[kind], x.ofTrack(track, what), model.ofTrack(track, what));
            }
        }
    }

    private int asked(String kind, int a, int b, long l) {
        switch (kind) {
            case "set": return x.set(a, b);
            case "track": return x.track(a);
            case "wagon": return x.wagon(a, b);
            case "block": return x.block(a, b);
            case "pull": return x.pull(a, b);
            case "push": return x.push(a, b);
            case "round": return x.round();
            case "pass": return x.pass(a);
            case "train": return x.train(l, b);
            case "strike": return x.strike(a);
            case "leave": return x.leave(a);
            case "ofTrack": return x.ofTrack(a, b);
            case "at": return x.at(a, b);
            case "ofWagon": return x.ofWagon(a, b);
            case "ofTrain": return x.ofTrain(a, b);
            case "count": return x.count(a);
            case "freeFrom": return x.freeFrom(a);
            case "straight": return x.straight(a);
            case "pulls": return x.pulls(a);
            case "wouldLeave": return x.wouldLeave(a);
            case "moves": return x.moves(a);
            case "roomFor": return x.roomFor();
            case "buried": return x.buried();
            case "put": return x.put(l);
            case "wipe": return x.wipe();
            case "fault": return x.fault();
            case "carryOut": return x.carryOut();
            case "undo": return x.undo();
            case "save": return x.save(a);
            default: return x.restore(a);
        }
    }

    private int due(String kind, int a, int b, long l) {
        switch (kind) {
            case "set": return model.set(a, b);
            case "track": return model.track(a);
            case "wagon": return model.wagon(a, b);
            case "block": return model.block(a, b);
            case "pull": return model.pull(a, b);
            case "push": return model.push(a, b);
            case "round": return model.round();
            case "pass": return model.pass(a);
            case "train": return model.train(l, b);
            case "strike": return model.strike(a);
            case "leave": return model.leave(a);
            case "ofTrack": return model.ofTrack(a, b);
            case "at": return model.at(a, b);
            case "ofWagon": return model.ofWagon(a, b);
            case "ofTrain": return model.ofTrain(a, b);
            case "count": return model.count(a);
            case "freeFrom": return model.freeFrom(a);
            case "straight": return model.straight(a);
            case "pulls": return model.pulls(a);
            case "wouldLeave": return model.wouldLeave(a);
            case "moves": return model.moves(a);
            case "roomFor": return model.roomFor();
            case "buried": return model.buried();
            case "put": return model.put(l);
            case "wipe": return model.wipe();
            case "fault": return model.fault();
            case "carryOut": return model.carryOut();
            case "undo": return model.undo();
            case "save": return model.save(a);
            default: return model.restore(a);
        }
    }
}
