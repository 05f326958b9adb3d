import java.util.ArrayList;
import java.util.List;
import java.util.function.IntSupplier;

/** Promises 29 to 31: undo, save, restore. */
public final class UndoTest {
    private static final int MAX = Integer.MAX_VALUE, MIN = Integer.MIN_VALUE;
    private static final Check c = new Check();

    public static void main(String[] args) {
        undoOfEachChange();
        sixStates();
        whatIsNoChange();
        save();
        restore();
        slotsAreOfTheirOwn();
        listsAndMinutesComeBack();
        c.end("UndoTest");
    }

    /** A yard in which each change is possible; wagons 2, 1 are at the engine, which are train 0. */
    private static PickupYard yard() {
        PickupYard x = Check.yard(3, 20);
        Check.wagons(x, 0, 1, 2, 3);
        Check.wagons(x, 1, 1, 1);
        x.train(Check.list(2, 1), 3);
        x.train(Check.list(4), 30);
        x.train(Check.list(0, 3), 40);
        x.block(50, 5);
        x.block(8, 2);
        x.pull(0, 2);
        x.save(0);
        x.pass(2);
        return x;
    }

    private static void undoOfEachChange() {
        for (int i = 0; i < 13; i++) {
            PickupYard x = yard();
            Check.write(x, "pB1;w9;r");
            String before = Check.seenButFor13And14(x);
            IntSupplier[] changes = {
                () -> x.set(5, 7), () -> x.track(9), () -> x.wagon(2, 4), () -> x.block(60, 6), () -> x.pull(1, 1),
                () -> x.push(2, 1), () -> x.round(), () -> x.pass(100), () -> x.train(Check.list(2 - 1 + 2), 99),
                () -> x.strike(1), () -> x.leave(0), () -> x.carryOut(), () -> x.restore(0),
            };
            if (i == 8) {
                x.strike(2);
                before = Check.seenButFor13And14(x);
            }
            c.holds("change " + i + " is possible", changes[i].getAsInt() >= 0);
            c.holds("change " + i + " is seen", !before.equals(Check.seenButFor13And14(x)));
            c.due("undo of change " + i, x.undo(), 5);
            c.holds("change " + i + " is undone", before.equals(Check.seenButFor13And14(x)));
            c.due("the pad is not brought back", x.count(13), i == 11 ? 0 : 8);
        }
    }

    private static void sixStates() {
        PickupYard x = new PickupYard();
        List<String> seen = new ArrayList<>();
        for (int i = 0; i < 20; i++) {
            seen.add(Check.seenButFor13And14(x));
            x.pass(i + 1);
            c.due("count(14)", x.count(14), Math.min(6, i + 1));
        }
        for (int i = 5; i >= 0; i--) {
            c.due("undo", x.undo(), i);
            c.holds("as it was", seen.get(14 + i).equals(Check.seenButFor13And14(x)));
        }
        c.changesNothing(x, "undo of none", () -> x.undo(), -5);
        x.pass(1);
        c.due("a change behind that", x.count(14), 1);
        x.set(0, 16);
        c.due("one by which nothing is different", x.count(14), 2);
        c.due("undo", x.undo(), 1);
        c.due("undo", x.undo(), 0);
        c.due("undo of none", x.undo(), -5);
        undoneIsForgotten();
        refusedCallsTouchNoState();
    }

    private static void refusedCallsTouchNoState() {
        PickupYard x = new PickupYard();
        for (int i = 0; i < 9; i++) {
            x.pass(1);
            x.pass(0);
            x.pull(0, 1);
        }
        for (int i = 5; i >= 0; i--) {
            c.due("undo", x.undo(), i);
            x.pass(0);
            c.due("minute", x.count(0), 3 + i);
        }
    }

    private static void undoneIsForgotten() {
        PickupYard x = new PickupYard();
        x.pass(1);
        x.pass(10);
        x.pass(100);
        x.undo();
        x.undo();
        x.pass(500);
        c.due("undo", x.undo(), 1);
        c.due("minute", x.count(0), 1);
        c.due("undo", x.undo(), 0);
        c.due("minute", x.count(0), 0);
    }

    private static void whatIsNoChange() {
        PickupYard x = yard();
        int before = x.count(14);
        while (x.count(14) > 2) {
            x.undo();
        }
        before = x.count(14);
        x.save(1);
        x.put('r');
        x.wipe();
        x.fault();
        x.freeFrom(1);
        x.roomFor();
        x.buried();
        x.count(0);
        x.set(9, 9);
        x.pull(9, 9);
        x.pass(0);
        c.due("calls that are no change", x.count(14), before);
    }

    private static void save() {
        PickupYard x = yard();
        for (int slot : new int[] {-1, 2, -6, MAX, MIN}) {
            c.changesNothing(x, "save(" + slot + ")", () -> x.save(slot), -2);
            c.changesNothing(x, "restore(" + slot + ")", () -> x.restore(slot), -2);
        }
        c.changesNothing(x, "restore of nothing", () -> x.restore(1), -5);
        c.changesNothing(x, "save(1)", () -> x.save(1), x.count(0));
        x.pass(7);
        c.changesNothing(x, "save(1) again", () -> x.save(1), x.count(0));
        int minute = x.count(0);
        x.pass(7);
        c.due("what was saved last", x.restore(1), minute);
    }

    private static void restore() {
        PickupYard x = yard();
        String then = Check.seenButFor13And14(x);
        int minute = x.save(1);
        Check.write(x, "pA1;");
        x.leave(0);
        x.wagon(0, 1);
        x.track(30);
        x.set(3, 5);
        x.strike(0);
        x.pull(1, 2);
        String later = Check.seenButFor13And14(x);
        c.isChange(x, "restore(1)", () -> x.restore(1), minute);
        c.holds("all is as it was saved", then.equals(Check.seenButFor13And14(x)));
        c.due("but for the pad", x.count(13), 4);
        c.due("undo of it", x.undo(), 5);
        c.holds("all is as it was before", later.equals(Check.seenButFor13And14(x)));
        c.due("the slot keeps it", x.restore(1), minute);
        c.holds("again as it was saved", then.equals(Check.seenButFor13And14(x)));
        x.pass(3);
        c.due("and still keeps it", x.restore(1), minute);
        c.due("restoring what is there is a change", x.restore(1), minute);
        c.due("undo", x.undo(), 5);
        c.due("minute", x.count(0), minute);
    }

    private static void listsAndMinutesComeBack() {
        PickupYard x = Check.yard(1, 60);
        for (int i = 0; i < 16; i++) {
            x.wagon(0, 1);
        }
        for (int i = 0; i < 8; i++) {
            x.train(Check.list(15 - 2 * i, 14 - 2 * i), 10 + i);
        }
        x.pull(0, 2);
        x.save(0);
        x.leave(0);
        x.save(1);
        String gone = Check.seenButFor13And14(x);
        x.restore(0);
        x.pass(9);
        x.leave(0);
        for (int i = 0; i < 7; i++) {
            x.strike(0);
        }
        for (int i = 0; i < 8; i++) {
            x.train(Check.list(i), 200 + i);
        }
        x.restore(1);
        c.holds("lists and the minutes in which wagons left", gone.equals(Check.seenButFor13And14(x)));
    }

    private static void slotsAreOfTheirOwn() {
        PickupYard x = new PickupYard();
        x.pass(1);
        c.due("save(0)", x.save(0), 1);
        x.pass(1);
        c.due("save(1)", x.save(1), 2);
        x.undo();
        x.undo();
        c.due("undo leaves the slots", x.restore(0), 1);
        c.due("both of them", x.restore(1), 2);
        PickupYard y = new PickupYard();
        y.pass(5);
        y.save(0);
        y.undo();
        c.due("undo does not take back a save", y.restore(0), 5);
        c.due("undo of restore", y.undo(), 0);
        c.due("minute", y.count(0), 0);
        c.due("another object's slots", new PickupYard().restore(0), -5);
    }
}
