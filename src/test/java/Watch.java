import java.util.ArrayList;
import java.util.List;

/**
 * All that can be asked of an object, in one list, so that two can be compared. It takes the object
 * apart (undone, kept and the text are seen only by using them), and stays below the 512 calls.
 */
final class Watch {
    private final CrookedFrames x;
    private final List<Integer> all = new ArrayList<>();
    private int frames;

    private Watch(CrookedFrames x) {
        this.x = x;
    }

    static List<Integer> all(CrookedFrames x) {
        Watch w = new Watch(x);
        w.house();
        w.days();
        w.questions();
        w.shelves();
        w.text();
        return w.all;
    }

    private void house() {
        for (int what = 0; what < 8; what++) {
            all.add(x.count(what));
        }
        frames = x.count(0);
        for (int k = 0; k < frames; k++) {
            for (int what = 0; what < 4; what++) {
                all.add(x.frame(k, what));
            }
        }
        int persons = x.count(1);
        for (int i = 0; i < persons; i++) {
            all.add(x.person(i, 0));
            all.add(x.person(i, 1));
        }
        for (int what = 0; what < 3; what++) {
            turns(what);
        }
    }

    private void turns(int what) {
        int size = x.count(3);
        all.add(size);
        for (int n = 0; n < size; n++) {
            all.add(x.told(n, what));
        }
    }

    private void days() {
        for (int day = 0; day <= 30; day++) {
            all.add(x.hers(day));
        }
        int[] some = {0, 1, 30};
        for (int day : some) {
            for (int k = 0; k < frames; k++) {
                all.add(x.angle(k, day));
            }
        }
    }

    private void questions() {
        all.add(x.rest());
        all.add(x.sways());
        for (int kind = 0; kind < 4; kind++) {
            all.add(x.bears(kind));
        }
        all.add(x.hang(0));
        all.add(x.most(0));
        all.add(x.most(1));
        all.add(x.night(7, 0));
        all.add(x.night(7, 1));
    }

    /** Nine undone and three kept: one more of each than there can be. */
    private void shelves() {
        for (int n = 0; n < 9; n++) {
            int left = x.undo();
            all.add(left);
            if (left >= 0) {
                turns(2);
            }
        }
        for (int n = 0; n < 3; n++) {
            int left = x.back();
            all.add(left);
            if (left >= 0) {
                turns(2);
            }
        }
        all.add(x.forget());
    }

    /** The letters themselves cannot be asked for: where the fault is, and what can be laid. */
    private void text() {
        all.add(x.fault());
        all.add(x.lay());
        frames = x.count(0);
        for (int k = 0; k < frames; k++) {
            all.add(x.frame(k, 1));
        }
        turns(2);
        all.add(x.wipe());
    }
}
