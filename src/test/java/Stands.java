import java.util.ArrayList;
import java.util.Arrays;
import java.util.List;

/** How all stands in a county, by every question there is, and calls behind which all must stand as before. */
final class Stands {
    interface Made {
        LeaningWalls anew();
    }

    interface Call {
        int on(LeaningWalls x);
    }

    private Stands() { }

    /** Both answer alike, now and by all that can be undone, gone back to, forgotten, laid and wiped: uses both up. */
    static void alike(String what, LeaningWalls x, LeaningWalls y) {
        asked(what + ", now", x, y);
        step(what + ", undone", x, y, LeaningWalls::undo);
        step(what + ", gone back", x, y, LeaningWalls::back);
        step(what + ", laid", x, y, LeaningWalls::lay);
        Check.due(what + ", forgotten", x.forget(), y.forget());
        Check.due(what + ", wiped", x.wipe(), y.wipe());
    }

    private static void step(String what, LeaningWalls x, LeaningWalls y, Call call) {
        for (int i = 0; i < 8; i++) {
            int due = call.on(y);
            Check.due(what, call.on(x), due);
            asked(what, x, y);
            if (due <= 0) {
                return;
            }
        }
    }

    /** Both answer alike to all that changes nothing. */
    static void asked(String what, LeaningWalls x, LeaningWalls y) {
        int[] got = answers(x);
        int[] due = answers(y);
        Check.due(what + ": " + Arrays.toString(got) + " like " + Arrays.toString(due), Arrays.equals(got, due) ? 1 : 0, 1);
    }

    private static int[] answers(LeaningWalls x) {
        List<Integer> list = new ArrayList<>();
        for (int what = 0; what < 10; what++) {
            list.add(x.count(what));
        }
        for (int f = 0; f < x.count(0); f++) {
            for (int what = 0; what < 6; what++) {
                list.add(x.family(f, what));
            }
            list.add(x.behind(60, f, 0));
            list.add(x.kinds(f));
        }
        for (int w = 0; w < x.count(1); w++) {
            for (int what = 0; what < 8; what++) {
                list.add(x.wall(w, what));
            }
        }
        for (int t = 0; t < x.count(2); t++) {
            list.add(x.tree(t));
        }
        list.add(x.fault());
        list.add(x.whoSick());
        return list.stream().mapToInt(Integer::intValue).toArray();
    }

    /** A call is answered as due and changes nothing. */
    static void unchanged(String what, Made made, Call call, int due) {
        LeaningWalls x = made.anew();
        Check.due(what, call.on(x), due);
        alike(what, x, made.anew());
    }
}
