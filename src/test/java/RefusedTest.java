import java.util.Arrays;

/** The words on BAD, NO, NONE and FULL: the numbers of every call, their order, and that nothing changes then. */
public final class RefusedTest {
    private static final int BAD = Check.BAD, NO = Check.NO, FULL = Check.FULL, NONE = Check.NONE;

    private interface Asked {
        int of(LeaningWalls x, int[] n);
    }

    /** A call, numbers of it that are right beside an end at another place, the least and the most at each place. */
    private static final class Row {
        final String name;
        final boolean changes;
        final Asked asked;
        final int[] right;
        final int[][] ends;

        Row(String name, boolean changes, Asked asked, int[] right, int[]... ends) {
            this.name = name;
            this.changes = changes;
            this.asked = asked;
            this.right = right;
            this.ends = ends;
        }
    }

    private static final int[] FAMILY = {0, 2}, WALL = {0, 3}, TREE = {0, 1};
    private static final Row[] ROWS = {
        new Row("write", true, (x, n) -> x.write(n[0]), new int[] {'f'}, new int[] {32, 126}),
        new Row("family", false, (x, n) -> x.family(n[0], n[1]), new int[] {1, 2}, FAMILY, new int[] {0, 5}),
        new Row("wall", false, (x, n) -> x.wall(n[0], n[1]), new int[] {1, 2}, WALL, new int[] {0, 7}),
        new Row("tree", false, (x, n) -> x.tree(n[0]), new int[] {1}, TREE),
        new Row("pass", true, (x, n) -> x.pass(n[0]), new int[] {1}, new int[] {1, 30}),
        new Row("share", true, (x, n) -> x.share(n[0], n[1], n[2]), new int[] {0, 0, 1}, FAMILY, WALL,
            new int[] {0, 12}),
        new Row("sick", true, (x, n) -> x.sick(n[0]), new int[] {1}, FAMILY),
        new Row("behind, land", false, (x, n) -> x.behind(n[0], n[1], 0), new int[] {9, 1}, new int[] {0, 60}, FAMILY),
        new Row("behind, tree", false, (x, n) -> x.behind(n[0], n[1], 2), new int[] {9, 1}, new int[] {0, 60}, TREE),
        new Row("behind", false, (x, n) -> x.behind(n[0], n[1], n[2]), new int[] {9, 1, 1}, new int[] {0, 60}, WALL,
            new int[] {0, 2}),
        new Row("gone", false, (x, n) -> x.gone(n[0]), new int[] {0}, new int[] {0, 1}),
        new Row("best", false, (x, n) -> x.best(n[0], n[1], n[2]), new int[] {1, 7, 1}, FAMILY, new int[] {1, 14},
            new int[] {0, 4}),
        new Row("enough", false, (x, n) -> x.enough(n[0], n[1]), new int[] {1, 7}, FAMILY, new int[] {1, 14}),
        new Row("nextTo", false, (x, n) -> x.nextTo(n[0], n[1]), new int[] {1, 1}, FAMILY, FAMILY),
        new Row("all", false, (x, n) -> x.all(n[0]), new int[] {1}, FAMILY),
        new Row("see", true, (x, n) -> x.see(n[0], n[1], n[2]), new int[] {1, 50, 3}, WALL, new int[] {0, 99},
            new int[] {1, 30}),
        new Row("kinds", false, (x, n) -> x.kinds(n[0]), new int[] {1}, FAMILY),
        new Row("idle", false, (x, n) -> x.idle(n[0], n[1], n[2], n[3]), new int[] {1, 9, 5, 0}, FAMILY,
            new int[] {0, 99}, new int[] {0, 10}, new int[] {0, 1}),
        new Row("year", false, (x, n) -> x.year(n[0], n[1], n[2]), new int[] {7, 30, 0}, new int[] {0, 9999},
            new int[] {1, 60}, new int[] {0, 1}),
        new Row("count", false, (x, n) -> x.count(n[0]), new int[] {3}, new int[] {0, 9})};

    public static void main(String[] args) {
        for (Row row : ROWS) {
            for (int place = 0; place < row.right.length; place++) {
                atTheEnds(row, place);
                beyondTheEnds(row, place);
            }
        }
        badAheadOfNo();
        badAheadOfNone();
        badAheadOfFull();
        noChangesNothing();
        noneChangesNothing();
        fullChangesNothing();
        badWhenFull();
        Check.end();
    }

    /** A county in which something of everything has happened. */
    private static LeaningWalls lived() {
        LeaningWalls x = Check.laid("f0,5,20;f3,4,10;f4,1,15;w0,1;w1,2;w2,0;w0,1;t0,20;t1,18;");
        x.pass(2);
        x.keep();
        x.share(0, 0, 1);
        x.sick(2);
        x.pass(3);
        x.share(1, 1, 0);
        x.see(0, 50, 2);
        x.write('f');
        return x;
    }

    /** The same, with all that can be full: letters, what is seen, what can be undone, what is kept. */
    private static LeaningWalls full() {
        LeaningWalls x = lived();
        x.keep();
        for (int i = 0; i < 10; i++) {
            x.see(3, 50 - i, 1 + i);
            x.sick(i % 3);
        }
        for (int i = 0; i < 200; i++) {
            x.write(';');
        }
        return x;
    }

    private static void atTheEnds(Row row, int place) {
        for (int end = 0; end < 2; end++) {
            int[] n = row.right.clone();
            n[place] = row.ends[place][end];
            String what = row.name + Arrays.toString(n);
            LeaningWalls x = lived();
            int got = row.asked.of(x, n);
            Check.due(what + " is not BAD but " + got, got == BAD ? 0 : 1, 1);
            if (!row.changes) {
                Stands.alike(what, x, lived());
            }
        }
    }

    private static void beyondTheEnds(Row row, int place) {
        int[] beyond = {row.ends[place][0] - 1, row.ends[place][1] + 1};
        for (int number : beyond) {
            int[] n = row.right.clone();
            n[place] = number;
            Stands.unchanged(row.name + Arrays.toString(n), RefusedTest::lived, x -> row.asked.of(x, n), BAD);
            Stands.unchanged("full, " + row.name + Arrays.toString(n), RefusedTest::full, x -> row.asked.of(x, n), BAD);
            for (int other = 0; other < n.length; other++) {
                int[] both = n.clone();
                both[other] = row.ends[other][1] + 1;
                Check.due(row.name + Arrays.toString(both), row.asked.of(lived(), both), BAD);
                both[other] = row.ends[other][0] - 1;
                Check.due(row.name + Arrays.toString(both), row.asked.of(lived(), both), BAD);
            }
        }
    }

    /** "Of several the first in this order" */
    private static void badAheadOfNo() {
        LeaningWalls x = lived();
        Check.due("too many hours", x.share(0, 0, 12), NO);
        Check.due("hours beyond those that can be told", x.share(0, 0, 13), BAD);
        Check.due("not its wall", x.share(0, 1, 0), NO);
        Check.due("not its wall, hours below none", x.share(0, 1, -1), BAD);
        Check.due("not its wall, hours beyond", x.share(0, 1, 13), BAD);
        Check.due("no wall, too many hours", x.share(0, 4, 12), BAD);
        Check.due("no family, not its wall", x.share(3, 1, 12), BAD);
    }

    private static void badAheadOfNone() {
        LeaningWalls x = Check.laid("f0,5,9;f1,5,9;f0,5,9;w0,2;");
        Check.due("nobody is gone", x.gone(0), NONE);
        Check.due("nobody, what 2", x.gone(2), BAD);
        Check.due("nobody, what -1", x.gone(-1), BAD);
        Check.due("no wall", x.best(1, 14, 4), NONE);
        Check.due("no wall, k 5", x.best(1, 14, 5), BAD);
        Check.due("no wall, k -1", x.best(1, 14, -1), BAD);
        Check.due("no wall, n 15", x.best(1, 15, 4), BAD);
        Check.due("no wall, n 0", x.best(1, 0, 4), BAD);
        Check.due("not so many", x.best(0, 14, 2), NONE);
        Check.due("not so many, n 15", x.best(0, 15, 2), BAD);
        LeaningWalls poet = Check.laid("f1,5,9;f0,5,9;w0,1;");
        Check.due("never enough", poet.enough(0, 14), NONE);
        Check.due("never, n 15", poet.enough(0, 15), BAD);
        Check.due("never, n 0", poet.enough(0, 0), BAD);
        LeaningWalls race = Check.laid("f0,4,20;f0,2,20;w0,1;");
        Check.due("never settled", race.all(1), NONE);
        Check.due("never, family 2", race.all(2), BAD);
    }

    private static void badAheadOfFull() {
        LeaningWalls x = full();
        Check.due("text is full", x.write('f'), FULL);
        Check.due("full, letter 31", x.write(31), BAD);
        Check.due("full, letter 127", x.write(127), BAD);
        Check.due("six are seen", x.see(0, 50, 1), FULL);
        Check.due("six, wall 4", x.see(4, 50, 1), BAD);
        Check.due("six, place 100", x.see(0, 100, 1), BAD);
        Check.due("six, place -1", x.see(0, -1, 1), BAD);
        Check.due("six, days 0", x.see(0, 50, 0), BAD);
        Check.due("six, days 31", x.see(0, 50, 31), BAD);
    }

    private static void noChangesNothing() {
        Stands.unchanged("lay a fault", RefusedTest::full, LeaningWalls::lay, NO);
        Stands.unchanged("lay nothing", LeaningWalls::new, LeaningWalls::lay, NO);
        Stands.unchanged("too many hours", RefusedTest::lived, x -> x.share(0, 0, 12), NO);
        Stands.unchanged("not its wall", RefusedTest::lived, x -> x.share(0, 1, 0), NO);
        Stands.unchanged("nothing to undo", RefusedTest::back, LeaningWalls::undo, NO);
        Stands.unchanged("nothing is kept", RefusedTest::unkept, LeaningWalls::back, NO);
    }

    private static LeaningWalls back() {
        LeaningWalls x = full();
        x.back();
        return x;
    }

    private static LeaningWalls unkept() {
        LeaningWalls x = back();
        x.back();
        x.pass(4);
        x.sick(0);
        return x;
    }

    private static void noneChangesNothing() {
        Stands.unchanged("no fault", RefusedTest::race, LeaningWalls::fault, NONE);
        Stands.unchanged("toward nobody", RefusedTest::race, x -> x.wall(0, 7), NONE);
        Stands.unchanged("who is gone", RefusedTest::race, x -> x.gone(0), NONE);
        Stands.unchanged("behind how many", RefusedTest::race, x -> x.gone(1), NONE);
        Stands.unchanged("no wall", RefusedTest::race, x -> x.best(2, 14, 0), NONE);
        Stands.unchanged("not so many walls", RefusedTest::race, x -> x.best(0, 14, 2), NONE);
        Stands.unchanged("never enough", RefusedTest::race, x -> x.enough(3, 14), NONE);
        Stands.unchanged("never settled", RefusedTest::race, x -> x.all(0), NONE);
    }

    /** Two that outdo one another, one without a wall, a poet next to a dog that loses a foot and wins it again. */
    private static LeaningWalls race() {
        LeaningWalls x = Check.laid("f0,3,20;f0,3,20;f0,3,20;f1,3,90;f3,0,90;w0,1;w3,4;");
        x.keep();
        x.pass(2);
        x.sick(2);
        x.see(0, 50, 3);
        return x;
    }

    private static void fullChangesNothing() {
        Stands.unchanged("write", RefusedTest::full, x -> x.write('f'), FULL);
        Stands.unchanged("see", RefusedTest::full, x -> x.see(0, 50, 1), FULL);
        Stands.unchanged("keep", RefusedTest::full, LeaningWalls::keep, FULL);
    }

    /** What is full is no hindrance to other calls: a ninth change is none that is refused. */
    private static void badWhenFull() {
        LeaningWalls x = full();
        Check.due("eight can be undone", x.count(7), 8);
        Check.due("a day more", x.pass(1), 6);
        Check.due("eight still", x.count(7), 8);
        Check.due("well", x.sick(0) + x.sick(0), 1);
        Check.due("eight again", x.count(7), 8);
    }
}
