/** Promises 25 to 28: put, wipe, fault, carryOut. */
public final class TextsTest {
    private static final Check c = new Check();

    public static void main(String[] args) {
        put();
        putTooMany();
        wipe();
        faults();
        noFaults();
        carryOut();
        carryOutUpToAnError();
        carryOutIsOneChange();
        ordersThatFail();
        c.end("TextsTest");
    }

    private static void put() {
        PickupYard x = new PickupYard();
        c.changesNothing(x, "no character", () -> x.put(0), -2);
        c.changesNothing(x, "code 32", () -> x.put(32), -2);
        c.changesNothing(x, "code 127", () -> x.put(127), -2);
        c.changesNothing(x, "code 255", () -> x.put(255), -2);
        c.changesNothing(x, "code 1", () -> x.put(1), -2);
        c.changesNothing(x, "a character above 8 bits that are 0", () -> x.put(0x7000), -2);
        c.changesNothing(x, "a bit above 8 bits that are 0", () -> x.put(0x10070), -2);
        c.changesNothing(x, "the highest bit above 0", () -> x.put(Long.MIN_VALUE | 'p'), -2);
        c.changesNothing(x, "-1", () -> x.put(-1), -2);
        c.changesNothing(x, "the least number", () -> x.put(Long.MIN_VALUE), -2);
        c.changesNothing(x, "the greatest number", () -> x.put(Long.MAX_VALUE), -2);
        c.changesNothing(x, "a bad code among good ones", () -> x.put(Check.characters("pA1 qB2")), -2);
        c.changesNothing(x, "a bad code as the first", () -> x.put(Check.characters("\u0080pA1;qB2")), -2);
        c.due("code 33", x.put(33), 1);
        c.due("code 126", x.put(126), 2);
        c.due("eight", x.put(Check.characters("~!pA1;qB")), 10);
        c.due("count(13)", x.count(13), 10);
        c.due("it is no change", x.count(14), 0);
        orderOfCharacters();
    }

    private static void orderOfCharacters() {
        PickupYard x = new PickupYard();
        x.put(Check.characters("pA"));
        x.put(Check.characters("12;"));
        x.put(Check.characters("qB2;r;t9"));
        x.put(Check.characters("x"));
        c.due("the fault is at the last one", x.fault(), 13);
    }

    private static void putTooMany() {
        PickupYard x = new PickupYard();
        for (int i = 1; i <= 9; i++) {
            c.due("eight more", x.put(Check.characters("r;r;r;r;")), 8 * i);
        }
        c.due("seven more", x.put(Check.characters("r;r;r;r")), 79);
        c.changesNothing(x, "two more", () -> x.put(Check.characters(";r")), -4);
        c.changesNothing(x, "two more, one bad", () -> x.put(Check.characters("; ")), -2);
        c.due("no fault in 79", x.fault(), -6);
        c.due("the eightieth", x.put(';'), 80);
        c.changesNothing(x, "one more", () -> x.put('r'), -4);
        c.changesNothing(x, "no more", () -> x.put(0), -2);
        c.due("80 end too early", x.fault(), 80);
    }

    private static void wipe() {
        PickupYard x = new PickupYard();
        c.due("wipe of an empty pad", x.wipe(), 0);
        Check.write(x, "pA1;qB2;r");
        c.due("wipe", x.wipe(), 9);
        c.due("count(13)", x.count(13), 0);
        c.due("fault", x.fault(), 0);
        c.due("wipe again", x.wipe(), 0);
        c.due("it is no change", x.count(14), 0);
        c.due("put behind a wipe", x.put('r'), 1);
        c.due("fault", x.fault(), -6);
    }

    private static void fault(String text, int want) {
        PickupYard x = new PickupYard();
        Check.write(x, text);
        c.changesNothing(x, "fault of " + text, () -> x.fault(), want);
    }

    private static void faults() {
        String[] texts = {"", "p", "pA", "q", "qH", "w", "t", "r;", "pA1;", "w5;r;"};
        for (String text : texts) {
            fault(text, text.length());
        }
        fault("x", 0);
        fault(";", 0);
        fault("A1", 0);
        fault("P", 0);
        fault("pI1", 1);
        fault("p@1", 1);
        fault("pa1", 1);
        fault("p1", 1);
        fault("p;", 1);
        fault("pA;", 2);
        fault("pAA", 2);
        fault("pA01", 3);
        fault("pA00", 3);
        fault("w00", 2);
        fault("t05", 2);
        fault("pA100", 4);
        fault("w100", 3);
        fault("w999", 3);
        fault("t1x", 2);
        fault("t1/", 2);
        fault("t1:", 2);
        fault("t/", 1);
        fault("t:", 1);
        fault("r1", 1);
        fault("rr", 1);
        fault("wA1", 1);
        fault("tA", 1);
        fault("r;;r", 2);
        fault("r;x", 2);
        fault("r,r", 1);
        fault("pA1;qB2;r;w99;t0;s", 17);
        fault("pA1qB2", 3);
        fault("pA-1", 2);
    }

    private static void noFaults() {
        String[] texts = {"r", "pA0", "pA1", "pH99", "qA10", "qD9", "w0", "w1", "w99", "t0", "t99", "r;r", "pA1;qB2;r;w10;t0"};
        for (String text : texts) {
            fault(text, -6);
        }
    }

    private static PickupYard yard() {
        PickupYard x = Check.yard(8, 20);
        Check.wagons(x, 0, 1, 1, 1);
        Check.wagons(x, 7, 1, 1);
        return x;
    }

    private static void carryOut() {
        PickupYard x = yard();
        x.train(Check.list(0, 1), 10);
        Check.write(x, "pA3;qH1;r;pH1;qC1;r;w12;r");
        c.due("carryOut of all", x.carryOut(), 8);
        c.due("the pad is empty", x.count(13), 0);
        c.due("moves", x.count(10), 7);
        c.due("pass", x.count(0), 5 + 6 + 11 + 6 + 5 + 11 + 12 + 11);
        c.due("at the engine", x.at(-6, 0), 1);
        c.due("at the engine", x.at(-6, 1), 2);
        c.due("on C", x.at(2, 0), 0);
        c.due("on H", x.at(7, 0), 4);
        Check.write(x, "qC1;pC2;t0");
        c.due("carryOut up to one that is not possible", x.carryOut(), 2);
        PickupYard y = yard();
        y.train(Check.list(2, 1), 10);
        Check.write(y, "w10;pA2;t0");
        c.due("carryOut with a train", y.carryOut(), 3);
        c.due("it has left", y.count(7), 1);
        c.due("late", y.count(12), 120);
        PickupYard z = yard();
        for (int i = 0; i < 11; i++) {
            Check.write(z, i == 0 ? "w99;w9" : ";w99;w9");
        }
        c.due("carryOut of 22 orders", z.carryOut(), 22);
        c.due("minutes", z.count(0), 11 * 108);
        for (int i = 0; i < 40; i++) {
            Check.write(z, i == 0 ? "pA1;w1" : i < 38 ? ";r" : "");
        }
        c.due("carryOut of 80 characters", z.carryOut(), 39);
    }

    private static void ordersThatAnswerNull() {
        PickupYard x = yard();
        x.train(Check.list(3), 100);
        x.train(Check.list(2), 100);
        Check.write(x, "pA1;qB1;pB1;t1;w5");
        c.due("carryOut with a push of all and a train in time", x.carryOut(), 5);
        c.due("the second train has left", x.ofWagon(2, 4), 16);
        c.due("minute", x.count(0), 21);
    }

    private static void carryOutUpToAnError() {
        PickupYard x = yard();
        Check.write(x, "pA1;w5;pB1;w7");
        c.due("the third one is not possible", x.carryOut(), 2);
        c.due("the fourth one is not carried out", x.count(0), 11);
        c.due("the pad is empty", x.count(13), 0);
        c.due("what was carried out stands", x.count(3), 1);
        Check.write(x, "t0;w5");
        c.isChange(x, "the first one fails", () -> x.carryOut(), 0);
        c.due("nothing is different", x.count(0), 11);
        c.due("the pad is empty", x.count(13), 0);
        Check.write(x, "w5;");
        c.changesNothing(x, "a fault", () -> x.carryOut(), -3);
        c.due("the pad stays", x.count(13), 3);
        x.wipe();
        c.changesNothing(x, "an empty pad", () -> x.carryOut(), -3);
    }

    private static void carryOutIsOneChange() {
        PickupYard x = yard();
        int before = x.count(14);
        c.due("six states", before, 6);
        String seen = Check.seenButFor13And14(x);
        Check.write(x, "pA1;pA1;r;w3");
        x.carryOut();
        Check.write(x, "q");
        c.due("undo", x.undo(), 5);
        c.holds("all of it is undone", seen.equals(Check.seenButFor13And14(x)));
        c.due("the pad is as it was", x.count(13), 1);
        PickupYard y = new PickupYard();
        Check.write(y, "w1;w1;w1");
        c.due("carryOut", y.carryOut(), 3);
        c.due("one state", y.count(14), 1);
    }

    private static void ordersThatFail() {
        ordersThatAnswerNull();
        String[] texts = {"pA0", "pA31", "pA4", "pB1", "qA0", "qA31", "qA1", "r", "w0", "t0", "t9"};
        for (String text : texts) {
            PickupYard x = yard();
            Check.write(x, "w2;" + text + ";w1");
            c.due("carryOut of " + text, x.carryOut(), 1);
            c.due("minute behind " + text, x.count(0), 2);
        }
        PickupYard x = Check.yard(2, 20);
        Check.write(x, "pC1");
        c.due("no such track", x.carryOut(), 0);
        Check.write(x, "w1;qH1");
        c.due("no such track", x.carryOut(), 1);
    }
}
