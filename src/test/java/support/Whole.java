import java.util.ArrayList;
import java.util.List;

/** What an object tells of itself: of two that are alike in it no call tells them apart but STATUS, UNDO and BACK. */
final class Whole {
    private Whole() {
    }

    /** All that can be asked, but STATUS. */
    static List<Long> of(RememberedWeight x) {
        List<Long> whole = new ArrayList<>();
        for (int what = 0; what <= 8; what++) {
            whole.add((long) x.count(what));
        }
        for (int what = 0; what <= 3; what++) {
            whole.add((long) x.rule(what));
        }
        for (int person = 0; person < x.count(0); person++) {
            addPerson(whole, x, person);
        }
        for (int i = 0; i < x.count(7); i++) {
            for (int what = 0; what <= 2; what++) {
                whole.add((long) x.log(i, what));
            }
        }
        whole.add((long) x.fault(0));
        whole.add((long) x.fault(1));
        whole.add((long) x.fits(-1));
        whole.add((long) x.fits(0));
        return whole;
    }

    private static void addPerson(List<Long> whole, RememberedWeight x, int person) {
        for (int what = 0; what <= 5; what++) {
            whole.add(Due.person(x, person, what));
        }
        for (int place = 0; place <= 3; place++) {
            for (int what = 0; what <= 4; what++) {
                whole.add((long) x.thought(person, place, what));
            }
        }
        whole.add((long) x.behind(person, 1));
    }

    static int[] status(RememberedWeight x) {
        int[] status = new int[5];
        for (int i = 0; i < 5; i++) {
            status[i] = x.status(i);
        }
        return status;
    }
}
