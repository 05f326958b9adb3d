/** What the terms "Trains" and "Texts" name as a boundary, sentence by sentence. */
public final class EdgesOfTrainsAndTextsTest {
    private static final int NO_SUCH = -1, BAD_VALUE = -2, BAD_TEXT = -3, TOO_MANY = -4, NOT_POSSIBLE = -5, NONE = -6;
    private static final Edge e = new Edge();

    public static void main(String[] args) {
        upToEightTrains();
        numbersDecrease();
        sizesOfLists();
        differentWagons();
        dueMinutes();
        justThoseOfTheList();
        haveLeftThen();
        finesForEachMinute();
        eightyCharacters();
        whatMayStandWhere();
        trackLetters();
        numbers();
        leadingZeros();
        endsTooEarly();
        ordersMean();
        e.end("EdgesOfTrainsAndTextsTest");
    }

    // ---- trains

    private static PickupYard withWagons(int many) {
        PickupYard x = Check.yard(2, 60);
        for (int i = 0; i < many; i++) {
            x.wagon(0, 1);
        }
        return x;
    }

    /** Train i waits for wagon 29 - i, which is at place i of track 0; it is due in minute 50 + i. */
    private static PickupYard withTrains(int many) {
        PickupYard x = withWagons(30);
        for (int i = 0; i < many; i++) {
            x.train(Check.list(29 - i), 50 + i);
        }
        return x;
    }

    private static void upToEightTrains() {
        e.says("There are up to 8 trains that wait");
        for (int i = 0; i < 8; i++) {
            e.due("count(6)", withTrains(i).count(6), i);
            e.due("train " + i, withTrains(i).train(Check.list(0), 50), i);
        }
        e.refuses("train 8", () -> withTrains(8), x -> x.train(Check.list(0), 50), TOO_MANY);
        PickupYard x = withTrains(8);
        x.strike(7);
        e.due("train 7, once one was struck", x.train(Check.list(0), 50), 7);
        PickupYard y = withTrains(8);
        y.pull(0, 1);
        y.leave(0);
        e.due("train 7, once one has left", y.train(Check.list(0), 50), 7);
        e.due("one more", y.train(Check.list(1), 50), TOO_MANY);
    }

    private static void numbersDecrease() {
        e.says("when one leaves or is struck, the numbers of the later ones decrease by 1");
        for (int gone = 0; gone < 8; gone++) {
            PickupYard x = withTrains(8);
            e.due("strike(" + gone + ")", x.strike(gone), 7);
            behind(x, gone);
            PickupYard y = withTrains(8);
            y.pull(0, gone + 1);
            y.push(1, 1);
            y.push(0, gone);
            y.pull(1, 1);
            e.due("leave(" + gone + ")", y.leave(gone), 0);
            behind(y, gone);
        }
    }

    /** Seven trains are left of eight. */
    private static void behind(PickupYard x, int gone) {
        e.due("count(6)", x.count(6), 7);
        for (int i = 0; i < 7; i++) {
            int was = i < gone ? i : i + 1;
            e.due("without " + gone + ": ofTrain(" + i + ", 1)", x.ofTrain(i, 1), 50 + was);
            e.due("without " + gone + ": ofTrain(" + i + ", 2)", x.ofTrain(i, 2), 29 - was);
            e.due("without " + gone + ": ofWagon(" + (29 - was) + ", 6)", x.ofWagon(29 - was, 6), i);
        }
        e.due("without " + gone + ": ofTrain(7, 0)", x.ofTrain(7, 0), NO_SUCH);
        e.due("without " + gone + ": ofWagon(.., 6)", x.ofWagon(29 - gone, 6), NONE);
    }

    private static int[] first(int many) {
        int[] wagons = new int[many];
        for (int i = 0; i < many; i++) {
            wagons[i] = 29 - i;
        }
        return wagons;
    }

    private static void sizesOfLists() {
        e.says("A train has a list of 1 to 8 different wagons");
        for (int size = 1; size <= 8; size++) {
            PickupYard x = withWagons(30);
            e.due("a list of " + size, x.train(Check.list(first(size)), 50), 0);
            e.due("ofTrain(0, 0)", x.ofTrain(0, 0), size);
            for (int i = 0; i < 8; i++) {
                e.due("ofTrain(0, " + (2 + i) + ")", x.ofTrain(0, 2 + i), i < size ? 29 - i : NONE);
            }
            x.pull(0, size);
            e.due("a train of " + size + " leaves", x.leave(0), 0);
            e.due("count(5)", x.count(5), size);
        }
        e.refuses("a list of none", () -> withWagons(30), x -> x.train(0, 50), BAD_VALUE);
        e.refuses("a list of 9", () -> withWagons(30), x -> x.train(Check.list(first(9)), 50), BAD_VALUE);
        e.refuses("a list of 12", () -> withWagons(30), x -> x.train(Check.list(first(12)), 50), BAD_VALUE);
    }

    private static void differentWagons() {
        e.says("different wagons that have not left");
        for (int one = 0; one < 8; one++) {
            for (int other = 0; other < 8; other++) {
                if (one != other) {
                    int[] wagons = first(8);
                    wagons[one] = wagons[other];
                    e.refuses("places " + one + " and " + other + " the same", () -> withWagons(30),
                        x -> x.train(Check.list(wagons), 50), BAD_VALUE);
                }
            }
        }
        for (int place = 0; place < 8; place++) {
            int[] wagons = first(8);
            wagons[place] = 0;
            e.due("the first wagon at place " + place, withWagons(30).train(Check.list(wagons), 50), 0);
            int[] later = first(8);
            later[place] = 20;
            e.refuses("a wagon that is not there yet at place " + place, () -> withWagons(20),
                x -> x.train(Check.list(later), 50), BAD_VALUE);
            int[] left = new int[8];
            for (int i = 0; i < 8; i++) {
                left[i] = i == place ? 29 : i;
            }
            e.refuses("a wagon that has left at place " + place, () -> withOneLeft(), x -> x.train(Check.list(left), 50),
                BAD_VALUE);
        }
    }

    /** Wagon 29 has left. */
    private static PickupYard withOneLeft() {
        PickupYard x = withTrains(1);
        x.pull(0, 1);
        x.leave(0);
        return x;
    }

    private static void dueMinutes() {
        e.says("a minute in which it is due");
        PickupYard x = withTrains(1);
        x.pull(0, 1);
        x.pass(44);
        e.due("leave in the minute", x.leave(0), 0);
        PickupYard y = withTrains(1);
        y.pull(0, 1);
        y.pass(45);
        e.due("leave a minute later", y.leave(0), 1);
        PickupYard z = withTrains(1);
        z.pull(0, 1);
        z.pass(43);
        e.due("leave a minute earlier", z.leave(0), 0);
    }

    /** Wagons of a list wait; these ones are at the engine. */
    private static PickupYard atEngine(int[] list, int... wagons) {
        PickupYard x = Check.yard(6, 60);
        for (int i = 0; i < 6; i++) {
            x.wagon(i, 1);
        }
        x.train(Check.list(list), 20);
        for (int wagon : wagons) {
            x.pull(wagon, 1);
        }
        return x;
    }

    private static void justThoseOfTheList() {
        e.says("It can leave when the wagons at the engine are just those of the list, in its order (place 0 is the first one)");
        int[] list = {3, 1, 4};
        e.due("just those", atEngine(list, 3, 1, 4).leave(0), 0);
        int[][] others = {{}, {3}, {3, 1}, {3, 1, 4, 0}, {0, 3, 1, 4}, {3, 4, 1}, {4, 1, 3}, {1, 3, 4}, {3, 1, 5}, {0, 1, 4},
            {3, 0, 4}, {1, 4}, {4}};
        for (int[] other : others) {
            e.refuses("others: " + other.length, () -> atEngine(list, other), x -> x.leave(0), NOT_POSSIBLE);
        }
        PickupYard x = atEngine(list, 4, 1, 3);
        x.round();
        e.due("turned round", x.leave(0), x.count(0) > 20 ? x.count(0) - 20 : 0);
        e.says("a list of one wagon");
        e.due("just that", atEngine(new int[] {5}, 5).leave(0), 0);
        e.refuses("none", () -> atEngine(new int[] {5}), y -> y.leave(0), NOT_POSSIBLE);
        e.refuses("another one", () -> atEngine(new int[] {5}, 4), y -> y.leave(0), NOT_POSSIBLE);
        e.refuses("it and another one", () -> atEngine(new int[] {5}, 5, 4), y -> y.leave(0), NOT_POSSIBLE);
    }

    private static void haveLeftThen() {
        e.says("they have left then, in the present minute");
        int[] list = {3, 1, 4};
        PickupYard x = atEngine(list, list);
        x.leave(0);
        for (int wagon : list) {
            e.due("ofWagon(" + wagon + ", 1)", x.ofWagon(wagon, 1), NONE);
            e.due("ofWagon(" + wagon + ", 2)", x.ofWagon(wagon, 2), NONE);
            e.due("ofWagon(" + wagon + ", 3)", x.ofWagon(wagon, 3), 0);
            e.due("ofWagon(" + wagon + ", 4)", x.ofWagon(wagon, 4), 15);
            e.due("ofWagon(" + wagon + ", 6)", x.ofWagon(wagon, 6), NONE);
        }
        e.due("ofWagon(0, 4)", x.ofWagon(0, 4), NONE);
        e.due("count(3)", x.count(3), 0);
        e.due("count(4)", x.count(4), 0);
        e.due("count(0)", x.count(0), 15);
        e.due("count(10)", x.count(10), 3);
        x.pass(7);
        e.due("ofWagon(3, 4) later", x.ofWagon(3, 4), 15);
    }

    private static void finesForEachMinute() {
        e.says("FINE is paid for each minute by which it is later than it was due");
        for (int fine : new int[] {0, 1, 20, 1000}) {
            for (int late = -2; late <= 3; late++) {
                PickupYard x = withWagons(1);
                x.set(5, fine);
                x.train(1, 50);
                x.pull(0, 1);
                x.pass(45 + late);
                e.due("late " + late, x.leave(0), Math.max(0, late));
                e.due("fines", x.count(12), Math.max(0, late) * fine);
            }
        }
        PickupYard x = withWagons(2);
        x.train(2, 0);
        x.train(1, 0);
        x.pull(0, 1);
        x.leave(0);
        x.set(5, 7);
        x.pull(0, 1);
        x.leave(0);
        e.due("of two trains", x.count(12), 6 * 20 + 11 * 7);
        x.set(5, 1000);
        e.due("what was paid stays", x.count(12), 6 * 20 + 11 * 7);
    }

    // ---- texts

    private static PickupYard padOf(String text) {
        PickupYard x = Check.yard(8, 60);
        Check.wagons(x, 0, 1, 1);
        Check.write(x, text);
        return x;
    }

    private static void eightyCharacters() {
        e.says("The pad is a text of at most 80 characters");
        String text = "";
        for (int length = 1; length <= 80; length++) {
            text += length % 2 == 1 ? "r" : ";";
            e.due("count(13)", padOf(text).count(13), length);
            e.due("fault()", padOf(text).fault(), length % 2 == 1 ? NONE : length);
        }
        String full = text;
        e.refuses("one more", () -> padOf(full), y -> y.put('r'), TOO_MANY);
        String orders = "pA1;qA1;".repeat(9) + "w1;w2;w3";
        PickupYard x = padOf(orders);
        e.due("80 without a fault", x.fault(), NONE);
        e.due("80 carried out", x.carryOut(), 21);
        e.due("count(0), up to the last one", x.count(0), 18 * 6 + 1 + 2 + 3);
        e.due("the last one of 80 is read", padOf(orders.substring(0, 79) + "x").fault(), 79);
        e.due("all of 80 that are orders but for the first one", padOf("x" + orders.substring(1)).fault(), 0);
    }

    /** Whether a character may stand behind a text that has no fault up to there. */
    private static boolean mayStand(String before, char next) {
        String order = before.substring(before.lastIndexOf(';') + 1);
        String due;
        if (order.isEmpty()) {
            due = "pqrwt";
        } else if (order.equals("p") || order.equals("q")) {
            due = "ABCDEFGH";
        } else if (order.equals("w") || order.equals("t") || order.matches("[pq].")) {
            due = "0123456789";
        } else if (order.matches(".*[A-Zwt][1-9]")) {
            due = "0123456789;";
        } else {
            due = ";";
        }
        return due.indexOf(next) >= 0;
    }

    private static boolean mayEnd(String text) {
        String order = text.substring(text.lastIndexOf(';') + 1);
        return order.equals("r") || order.matches(".*[0-9]");
    }

    private static void whatMayStandWhere() {
        e.says("The fault is the index of the first character that cannot stand at its place");
        String[] texts = {"", "p", "q", "w", "t", "r", "pA", "qH", "pA0", "qB7", "pC10", "qD99", "w0", "w9", "w42", "t0", "t1",
            "t99", "r;", "pA1;", "w5;r;", "r;p", "r;q", "r;w", "r;t", "r;r", "r;pE", "t3;qF1", "t3;qF12", "w1;w0"};
        for (String before : texts) {
            for (char next = 33; next <= 126; next++) {
                String text = before + next;
                int due = !mayStand(before, next) ? before.length() : mayEnd(text) ? NONE : text.length();
                e.due("fault() of " + text, padOf(text).fault(), due);
                // What stands behind the first fault is not asked.
                String longer = text + ";x";
                e.due("fault() of " + longer, padOf(longer).fault(),
                    !mayStand(before, next) ? before.length() : mayEnd(text) ? longer.length() - 1 : text.length());
            }
        }
    }

    private static void trackLetters() {
        e.says("A track is a letter from A to H");
        for (char letter = 33; letter <= 126; letter++) {
            boolean isTrack = letter >= 'A' && letter <= 'H';
            e.due("fault() of p" + letter + "1", padOf("p" + letter + "1").fault(), isTrack ? NONE : 1);
            e.due("fault() of q" + letter + "1", padOf("q" + letter + "1").fault(), isTrack ? NONE : 1);
        }
        for (int track = 0; track < 8; track++) {
            PickupYard x = padOf("pA1;q" + (char) ('A' + track) + "1");
            e.due("carryOut()", x.carryOut(), 2);
            e.due("the track of the wagon", x.ofWagon(1, 1), track);
            Check.write(x, "p" + (char) ('A' + track) + "1");
            e.due("carryOut()", x.carryOut(), 1);
            e.due("came out of it", x.ofTrack(track, 3), track == 0 ? 2 : 1);
        }
    }

    private static void numbers() {
        e.says("A number is 0 to 99");
        String[] kinds = {"pA", "qH", "w", "t"};
        for (String kind : kinds) {
            for (int number = 0; number <= 999; number++) {
                String text = kind + number;
                int due = number <= 99 ? NONE : text.length() - 1;
                e.due("fault() of " + text, padOf(text).fault(), due);
            }
        }
        e.due("a digit more where one is too many already", padOf("w1234").fault(), 3);
        for (int minutes = 1; minutes <= 99; minutes++) {
            PickupYard x = padOf("w" + minutes);
            e.due("carryOut() of w" + minutes, x.carryOut(), 1);
            e.due("count(0)", x.count(0), minutes);
        }
        e.due("carryOut() of w0", padOf("w0").carryOut(), 0);
    }

    private static void leadingZeros() {
        e.says("without leading zeros");
        for (String kind : new String[] {"pA", "qH", "w", "t"}) {
            for (int digit = 0; digit <= 9; digit++) {
                e.due("fault() of " + kind + "0" + digit, padOf(kind + "0" + digit).fault(), kind.length() + 1);
            }
            e.due("fault() of " + kind + "0", padOf(kind + "0").fault(), NONE);
            e.due("fault() of " + kind + "0;r", padOf(kind + "0;r").fault(), NONE);
            e.due("fault() of " + kind + "10", padOf(kind + "10").fault(), NONE);
        }
    }

    private static void endsTooEarly() {
        e.says("if there is none and the text ends too early (also if it is empty), it is the length of the text");
        String text = "pA12;qH0;r;w9;t1;qC9;pD10";
        for (int length = 0; length <= text.length(); length++) {
            String begin = text.substring(0, length);
            e.due("fault() of " + begin, padOf(begin).fault(), mayEnd(begin) ? NONE : length);
            if (!mayEnd(begin)) {
                e.refuses("carryOut() of " + begin, () -> padOf(begin), x -> x.carryOut(), BAD_TEXT);
            }
        }
    }

    private static void ordersMean() {
        e.says("\"p\": pull() so many; \"q\": push() so many; \"r\": round(); \"w\": pass(); \"t\": leave()");
        for (String order : new String[] {"pA1", "pA2", "pA3", "pA0", "pA31", "pB1", "pD1", "qC1", "qC2", "qC3", "qC0", "qC31",
            "qC99", "qD1", "r", "w1", "w99", "w0", "t0", "t1", "t2", "t99"}) {
            PickupYard x = Edge.busy();
            x.wipe();
            Check.write(x, order);
            int done = x.carryOut();
            PickupYard y = Edge.busy();
            y.wipe();
            int answer = called(y, order);
            e.due("carryOut() of " + order, done, answer >= 0 ? 1 : 0);
            e.holds("behind " + order, Check.seenButFor13And14(x).equals(Check.seenButFor13And14(y)));
        }
    }

    private static int called(PickupYard x, String order) {
        int track = order.length() > 1 ? order.charAt(1) - 'A' : 0;
        switch (order.charAt(0)) {
            case 'p':
                return x.pull(track, Integer.parseInt(order.substring(2)));
            case 'q':
                return x.push(track, Integer.parseInt(order.substring(2)));
            case 'r':
                return x.round();
            case 'w':
                return x.pass(Integer.parseInt(order.substring(1)));
            default:
                return x.leave(Integer.parseInt(order.substring(1)));
        }
    }
}
