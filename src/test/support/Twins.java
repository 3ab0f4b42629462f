import java.util.ArrayList;
import java.util.List;
import java.util.function.Predicate;
import java.util.function.Supplier;

/**
 * Two objects with the same story; one of them hears a call more, which is refused. Then they answer alike in all but
 * status(): so whatever a refused call would change is seen. Each of the two stays below 512 calls.
 */
final class Twins {
    /** ACTS, a walk that is told, an image that is written, drops in the CISTERNS, a seed of its own: all can be lost. */
    static final String ISLE = "island 3 3;wall at 0 0;house at 1 0;cistern c at 2 0;cloth a takes 1 at 0 1;"
        + "stone takes 2 at 1 1;cloth b takes 3 at 2 1;dew takes+open-6;dries hour/4;drinks 20;cloudy 40;wring 7;";

    private final DewBaron x;
    private final List<Integer> answers = new ArrayList<>();

    private Twins(DewBaron x) {
        this.x = x;
    }

    static DewBaron busy() {
        DewBaron x = Check.isle(ISLE);
        Check.put(x, 8, 7, 6);
        Check.due("a walk of the story", 2, x.walked());
        x.seed(77);
        x.nights(2);
        x.hang(1, 6);
        x.wall(8, true);
        x.night();
        x.image();
        return x;
    }

    /** The call is heard by a busy object, and counted by status(kind). */
    static void stays(String call, int kind, Predicate<DewBaron> refused) {
        stays(call, kind, Twins::busy, refused);
    }

    static void stays(String call, int kind, Supplier<DewBaron> story, Predicate<DewBaron> refused) {
        DewBaron one = story.get();
        DewBaron two = story.get();
        int before = two.status(kind);
        Check.due(call + " is refused", true, refused.test(two));
        Check.due(call + " is counted", before + 1, two.status(kind));
        for (int other = 0; other < 6; other++) {
            if (other != kind) {
                Check.due(call + " leaves status " + other, one.status(other), two.status(other));
            }
        }
        same(call, new Twins(one).all(), new Twins(two).all());
    }

    /** That two objects answer alike, whatever is asked but fault() and status(). */
    static void alike(String why, DewBaron one, DewBaron two) {
        same(why, new Twins(one).all(), new Twins(two).all());
    }

    private static void same(String why, List<Integer> due, List<Integer> is) {
        Check.due(why + ": how many answers", due.size(), is.size());
        for (int i = 0; i < Math.min(due.size(), is.size()); i++) {
            Check.due(why + " leaves answer " + i, due.get(i), is.get(i));
        }
    }

    private List<Integer> all() {
        things();
        cells();
        night();
        craft();
        past();
        return answers;
    }

    private void add(int answer) {
        answers.add(answer);
    }

    private void things() {
        for (int what = 0; what < 13; what++) {
            add(x.has(what));
        }
        for (int thing = 0; thing < 4; thing++) {
            for (int what = 0; what < 5; what++) {
                add(x.thing(thing, what));
            }
        }
        for (int i = 0; i < 2; i++) {
            for (int what = 0; what < 4; what++) {
                add(x.cistern(i, what));
            }
            add(x.letter(0, i, 0));
            add(x.letter(1, i, 0));
        }
    }

    private void cells() {
        for (int cell = 0; cell < 9; cell++) {
            for (int what = 0; what < 5; what++) {
                add(x.cell(cell, what));
            }
            add(x.cold(cell, 12));
            add(x.down(cell, 0));
            add(x.votes(cell, 0));
        }
    }

    private void night() {
        for (int hour = 1; hour <= 12; hour++) {
            add(x.sky(hour));
        }
        for (int thing = 0; thing < 3; thing++) {
            for (int what = 0; what < 3; what++) {
                add(x.dew(thing, 7, what));
                add(x.dew(thing, 12, what));
            }
        }
        for (int what = 0; what < 5; what++) {
            add(x.whole(what));
        }
    }

    private void craft() {
        for (int k = -1; k < 3; k++) {
            add(x.order(k));
            add(x.walk(k));
        }
        for (int k : new int[] {-1, 0, 1, 20}) {
            add(x.alike(2, k));
        }
        add(x.linen(50, 0));
        add(x.linen(50, 1));
        add(x.best(0));
        add(x.stores(0));
        add(x.stores(1));
        for (int k = 0; k < 18; k++) {
            add(x.octet(k));
        }
    }

    /** What undo() brings back, as far as it goes. */
    private void past() {
        for (int i = 0; i < 6; i++) {
            add(x.undo() ? 1 : 0);
            add(x.thing(0, 0));
            add(x.thing(2, 0));
            add(x.has(2));
            add(x.has(10));
            add(x.cistern(0, 1));
        }
        add(x.has(12));
    }
}
