import java.util.function.Consumer;
import java.util.function.Supplier;

/**
 * All that can be seen of an object, as one text: two objects of which it is the same stand alike. It takes apart what it
 * looks at (it undoes, restores, writes, reads the tape), so that an object is looked at once, at its end.
 */
final class Witness {
    /** An object is used for 512 calls; what is done with one ahead of the look needs some of them. */
    private static final int MOST_CALLS = 400;

    private final MeanRoads x;
    private final StringBuilder seen = new StringBuilder();
    private int calls = 0;

    private Witness(MeanRoads x) {
        this.x = x;
    }

    static String of(MeanRoads x) {
        Witness w = new Witness(x);
        w.lookAtLand();
        w.lookAtFault();
        w.lookAtTrays();
        w.takeTraysApart();
        w.undoAll();
        w.restoreAll();
        w.readTape();
        return w.told();
    }

    /** As of(), without the tape and the fault, which a text with a fault changes, too. */
    static String withoutText(MeanRoads x) {
        Witness w = new Witness(x);
        w.lookAtLand();
        w.lookAtTrays();
        w.takeTraysApart();
        w.undoAll();
        w.restoreAll();
        return w.told();
    }

    /** Whether an object stands as it would without this call. */
    static boolean isUnchanged(Supplier<MeanRoads> stand, Consumer<MeanRoads> call) {
        MeanRoads called = stand.get();
        call.accept(called);
        return of(called).equals(of(stand.get()));
    }

    private String told() {
        if (calls > MOST_CALLS) {
            throw new IllegalStateException("too many calls to look: " + calls);
        }
        return seen.toString();
    }

    private void see(long answer) {
        calls++;
        seen.append(answer).append(' ');
    }

    private void lookAtLand() {
        for (int what = 0; what <= 9; what++) {
            see(x.count(what));
        }
        for (int p = 0; p < x.count(0); p++) {
            for (int what = 0; what <= 3; what++) {
                see(x.place(p, what));
            }
            see(x.worth(p, 0));
            see(x.best(p));
        }
        for (int r = 0; r < x.count(1); r++) {
            for (int what = 0; what <= 2; what++) {
                see(x.road(r, what));
            }
            see(x.pay(r));
        }
        see(x.purse(0));
        see(x.at(5));
        see(x.rows(3, 5));
        seen.append('\n');
    }

    private void lookAtFault() {
        see(x.fault(0));
        see(x.fault(1));
        seen.append('\n');
    }

    private void lookAtTrays() {
        for (int tray = 0; tray < 4; tray++) {
            for (int what = 0; what <= 3; what++) {
                see(x.judge(tray, what));
            }
            see(x.weathers(tray));
            see(x.ask(tray));
        }
        seen.append('\n');
    }

    /** What a number is cut to tells the sort, which places there are tells the size. */
    private void takeTraysApart() {
        int[] places = {0, 1, 2, 3, 39};
        for (int tray = 0; tray < 4; tray++) {
            for (int i : places) {
                see(x.write(tray, i, 0x1234_8765_9876_abcdL));
            }
        }
        seen.append('\n');
    }

    private void undoAll() {
        for (int i = 0; i < 11; i++) {
            see(x.undo(1));
            see(x.count(2));
            see(x.count(3));
            see(x.count(4));
            see(x.purse(0));
            see(x.place(0, 1));
            see(x.place(1, 1));
        }
        seen.append('\n');
    }

    private void restoreAll() {
        for (int i = 0; i < 2; i++) {
            see(x.restore(i));
            lookAtLand();
        }
    }

    private void readTape() {
        see(x.land(x.count(8)));
        lookAtFault();
        lookAtLand();
    }
}
