/** Promises 13 to 18: what comes. */
public final class ComingTest {
    private static final int BAD = Check.BAD, NONE = Check.NONE;

    public static void main(String[] args) {
        behind();
        gone();
        best();
        bestOfSeveral();
        enough();
        nextTo();
        all();
        nothingChanges();
        Check.end();
    }

    /** Promise 13. */
    private static void behind() {
        LeaningWalls x = Check.laid("f0,4,10;f0,2,10;w0,1;t0,20;t0,23;");
        Check.due("land now", x.behind(0, 1, 0), 10);
        Check.due("land behind 3", x.behind(3, 1, 0), 7);
        Check.due("land behind 6", x.behind(6, 1, 0), 4);
        Check.due("land behind 7", x.behind(7, 1, 0), 4);
        Check.due("land behind 60", x.behind(60, 1, 0), 0);
        Check.due("place now", x.behind(0, 0, 1), 100);
        Check.due("place behind 3", x.behind(3, 0, 1), 103);
        Check.due("tree behind 2", x.behind(2, 1, 2), 1);
        Check.due("tree behind 3", x.behind(3, 1, 2), 0);
        Check.due("behind -1", x.behind(-1, 0, 0), BAD);
        Check.due("behind 61", x.behind(61, 0, 0), BAD);
        Check.due("family 2", x.behind(1, 2, 0), BAD);
        Check.due("wall 1", x.behind(1, 1, 1), BAD);
        Check.due("tree 2", x.behind(1, 2, 2), BAD);
        Check.due("k -1", x.behind(1, -1, 0), BAD);
        Check.due("what 3", x.behind(1, 0, 3), BAD);
        Check.due("what -1", x.behind(1, 0, -1), BAD);
        x.pass(5);
        Check.due("from now on", x.behind(2, 1, 0), 4);
    }

    /** Promise 14. */
    private static void gone() {
        LeaningWalls x = Check.laid("f0,4,10;f0,2,10;w0,1;");
        Check.due("who is gone", x.gone(0), 1);
        Check.due("when", x.gone(1), 11);
        Check.due("gone -1", x.gone(-1), BAD);
        Check.due("gone 2", x.gone(2), BAD);
        x.pass(10);
        Check.due("the day ahead", x.gone(1), 1);
        x.pass(1);
        Check.due("who has none is not gone any more", x.gone(0), NONE);
        Check.due("nor when", x.gone(1), NONE);
        Check.due("bad ahead of none", x.gone(2), BAD);
        LeaningWalls both = Check.laid("f0,4,10;f1,2,3;f1,2,3;w0,2;w0,1;");
        Check.due("on one day the first family", both.gone(0), 1);
        Check.due("on that day", both.gone(1), 3);
        LeaningWalls earlier = Check.laid("f0,4,10;f1,2,3;f1,2,2;w0,2;w0,1;");
        Check.due("the day ahead of the family", earlier.gone(0), 2);
        // 60 days from day 0 hold eight days of rest, so 52 feet can go
        Check.due("by the sixtieth day", Check.laid("f0,4,10;f1,2,52;w0,1;").gone(1), 60);
        Check.due("not behind it", Check.laid("f0,4,10;f1,2,53;w0,1;").gone(1), NONE);
        Check.due("nobody", Check.laid("f0,4,10;").gone(0), NONE);
        // a foot that comes and goes within a day leaves one without land at no day's end
        Check.due("within a day", Check.laid("f1,0,60;f0,4,1;f3,9,0;w1,2;w0,1;").gone(0), NONE);
    }

    /** Promise 15. */
    private static void best() {
        LeaningWalls x = Check.laid("f0,5,20;f0,2,20;f0,3,20;w0,1;w2,0;");
        // 5 hours are too few to do more than 2 and more than 3: the first way wins one wall, loses the other
        Check.due("land", x.best(0, 6, 0), 20);
        Check.due("at wall 0", x.best(0, 6, 1), 5);
        Check.due("at wall 1", x.best(0, 6, 2), 0);
        Check.due("no third wall", x.best(0, 6, 3), NONE);
        x.share(2, 1, 2);
        Check.due("3 and 2: one won, the other alike", x.best(0, 6, 0), 26);
        Check.due("first 3", x.best(0, 6, 1), 3);
        Check.due("then 2", x.best(0, 6, 2), 2);
        Check.due("as if from now on", x.wall(0, 3), 3);
        Check.due("one wall, all hours", x.best(2, 1, 1), 3);
        Check.due("family 3", x.best(3, 6, 0), BAD);
        Check.due("family -1", x.best(-1, 6, 0), BAD);
        Check.due("days 0", x.best(0, 0, 0), BAD);
        Check.due("days 15", x.best(0, 15, 0), BAD);
        Check.due("k -1", x.best(0, 1, -1), BAD);
        Check.due("k 5", x.best(0, 1, 5), BAD);
        Check.due("k 4", x.best(0, 1, 4), NONE);
        LeaningWalls alone = Check.laid("f0,5,20;");
        Check.due("no wall, land", alone.best(0, 3, 0), NONE);
        Check.due("no wall, first", alone.best(0, 3, 1), NONE);
        Check.due("no wall, bad", alone.best(0, 3, 5), BAD);
    }

    private static void bestOfSeveral() {
        LeaningWalls x = Check.laid("f0,12,9;f0,2,30;f0,2,30;f0,4,30;w3,0;w0,1;w0,2;w0,3;");
        x.share(3, 0, 1);
        x.share(3, 3, 3);
        // to win: 2, 3, 3, 4 hours, which are 12 in all
        Check.due("land of four walls won", x.best(0, 2, 0), 17);
        int[] way = {2, 3, 3, 4};
        for (int k = 1; k <= 4; k++) {
            Check.due("share " + k, x.best(0, 2, k), way[k - 1]);
        }
        LeaningWalls poet = Check.laid("f1,6,9;f0,2,30;w0,1;w1,0;w0,1;");
        int[] first = {6, 0, 0};
        for (int k = 1; k <= 3; k++) {
            Check.due("a poet's share " + k, poet.best(0, 2, k), first[k - 1]);
        }
        LeaningWalls none = Check.laid("f3,0,9;f1,2,30;w0,1;w1,0;");
        Check.due("no hours to share", none.best(0, 2, 2), 0);
        Check.due("and the dog's land", none.best(0, 2, 0), 13);
        // sharing all is a must: what is not shared now is shared then
        LeaningWalls left = Check.laid("f0,4,9;f0,2,30;w0,1;");
        left.share(0, 0, 0);
        Check.due("all hours", left.best(0, 2, 1), 4);
        Check.due("most land", left.best(0, 2, 0), 11);
    }

    /** Promise 16. */
    private static void enough() {
        LeaningWalls x = Check.laid("f0,1,10;f0,4,10;w0,1;");
        Check.due("as much as the other one, more than it has", x.enough(0, 3), 4);
        Check.due("the other one", x.enough(1, 3), 1);
        Check.due("behind none", Check.laid("f0,1,0;f0,4,10;w0,1;").enough(0, 3), 0);
        Check.due("a poet never", Check.laid("f1,1,10;f0,4,10;w0,1;").enough(0, 3), NONE);
        Check.due("one without a wall", Check.laid("f1,1,10;").enough(0, 14), 0);
        Check.due("a dog's hour", Check.laid("f3,1,10;f0,1,10;w0,1;").enough(0, 3), 0);
        Check.due("a moaner who is well", Check.laid("f2,1,10;f0,5,10;w0,1;").enough(0, 3), 5);
        LeaningWalls moaner = Check.laid("f2,1,10;f0,5,10;w0,1;");
        moaner.sick(0);
        Check.due("a sick moaner", moaner.enough(0, 3), 3);
        LeaningWalls two = Check.laid("f0,0,10;f0,4,10;f0,3,10;w0,1;w2,0;");
        Check.due("even at two walls: 4 and 3", two.enough(0, 3), 7);
        LeaningWalls higher = Check.laid("f0,0,10;f0,3,10;f0,4,10;w0,1;w2,0;");
        Check.due("even at two walls: one more at the lower one wins there", higher.enough(0, 3), 7);
        Check.due("at most twelve", Check.laid("f0,0,10;f3,12,10;w0,1;").enough(0, 3), NONE);
        Check.due("twelve", Check.laid("f0,0,10;f0,12,10;w0,1;").enough(0, 3), 12);
        Check.due("family 2", x.enough(2, 3), BAD);
        Check.due("family -1", x.enough(-1, 3), BAD);
        Check.due("days 0", x.enough(0, 0), BAD);
        Check.due("days 15", x.enough(0, 15), BAD);
    }

    /** Promise 17. */
    private static void nextTo() {
        LeaningWalls x = Check.laid("f3,4,10;f0,2,4;f4,1,20;f1,1,20;");
        Check.due("a dog next to a plain one", x.nextTo(0, 1), 54);
        Check.due("the plain one", x.nextTo(1, 0), 46);
        Check.due("a dog next to a poet: six days' work", x.nextTo(0, 3), 56);
        Check.due("a dog next to a hirer", x.nextTo(0, 2), 44);
        Check.due("plain next to a poet", x.nextTo(1, 3), 50);
        Check.due("alike", x.nextTo(0, 0), BAD);
        Check.due("family 4", x.nextTo(0, 4), BAD);
        Check.due("of family 4", x.nextTo(4, 0), BAD);
        Check.due("-1", x.nextTo(-1, 0), BAD);
        Check.due("no wall comes of it", x.count(1), 0);
        LeaningWalls full = Check.laid("f3,0,50;f1,0,50;w0,1;w0,1;w1,0;w1,0;");
        Check.due("a fifth wall", full.nextTo(0, 1), 56);
        String eight = "f3,0,50;f1,0,50;f1,0,9;f1,0,9;w0,1;w0,1;w1,0;w1,0;w2,3;w2,3;w2,3;w2,3;";
        Check.due("a ninth wall", Check.laid(eight).nextTo(0, 1), 56);
        // the new wall comes last: the land that it could take has gone by the others
        LeaningWalls last = Check.laid("f3,0,0;f1,0,6;f3,0,0;w1,2;");
        Check.due("behind all others", last.nextTo(0, 1), 53);
    }

    /** Promise 18. */
    private static void all() {
        // the other one is a poet: one hour wins six feet, two would win no more
        LeaningWalls poet = Check.laid("f0,4,10;f1,2,10;w0,1;");
        Check.due("an hour is best against a poet", poet.all(0), 1);
        Check.due("the poet does nothing", poet.all(1), 0);
        Check.due("without a wall no hours", Check.laid("f0,4,10;").all(0), 0);
        // a dog's own hour wins against a poet
        Check.due("a dog needs none", Check.laid("f3,4,10;f1,2,10;w0,1;").all(0), 0);
        // without land to win or to lose hours are lost
        LeaningWalls bare = Check.laid("f0,4,0;f0,2,0;w0,1;");
        Check.due("nothing to win", bare.all(0), 0);
        Check.due("nothing to lose", bare.all(1), 0);
        // told hours that are best already, though they are not shared so: the first round changes no hours
        LeaningWalls told = Check.laid("f0,1,10;f1,0,10;w0,1;");
        told.share(0, 0, 0);
        Check.due("hours told at first", told.all(0), 1);
        // two plain ones outdo one another round by round until it doesn't pay, and then anew
        LeaningWalls race = Check.laid("f0,4,20;f0,2,20;w0,1;");
        Check.due("a race without an end", race.all(0), NONE);
        Check.due("for both", race.all(1), NONE);
        Check.due("family 2", race.all(2), BAD);
        Check.due("family -1", race.all(-1), BAD);
    }

    /** None of these calls changes anything. */
    private static void nothingChanges() {
        LeaningWalls x = new LeaningWalls();
        LeaningWalls y = new LeaningWalls();
        x.pass(3);
        y.pass(3);
        x.behind(60, 0, 0);
        x.gone(0);
        x.best(0, 14, 1);
        x.enough(1, 14);
        x.nextTo(0, 2);
        x.all(0);
        x.whoSick();
        x.kinds(0);
        x.idle(0, 9, 5, 0);
        x.year(7, 60, 0);
        for (int what = 0; what < 10; what++) {
            Check.due("count " + what + " stays", x.count(what), y.count(what));
        }
        for (int w = 0; w < 6; w++) {
            for (int what = 0; what < 8; what++) {
                Check.due("wall " + w + " stays, " + what, x.wall(w, what), y.wall(w, what));
            }
        }
        for (int f = 0; f < 5; f++) {
            for (int what = 0; what < 6; what++) {
                Check.due("family " + f + " stays, " + what, x.family(f, what), y.family(f, what));
            }
        }
    }
}
