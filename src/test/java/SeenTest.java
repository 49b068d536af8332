/** Promises 19 to 22: what was seen. */
public final class SeenTest {
    private static final int BAD = Check.BAD, FULL = Check.FULL;

    public static void main(String[] args) {
        seeing();
        forgetting();
        whoSick();
        kinds();
        Check.end();
    }

    /** Promise 19. */
    private static void seeing() {
        LeaningWalls x = Check.laid("f0,4,10;f0,2,10;w0,1;");
        Check.due("wall 1", x.see(1, 50, 1), BAD);
        Check.due("wall -1", x.see(-1, 50, 1), BAD);
        Check.due("place 100", x.see(0, 100, 1), BAD);
        Check.due("place -1", x.see(0, -1, 1), BAD);
        Check.due("days 0", x.see(0, 50, 0), BAD);
        Check.due("days 31", x.see(0, 50, 31), BAD);
        Check.due("nothing is seen", x.count(6), 0);
        Check.due("one", x.see(0, 0, 1), 1);
        Check.due("two", x.see(0, 99, 30), 2);
        for (int i = 3; i <= 6; i++) {
            Check.due("the same again", x.see(0, 99, 30), i);
        }
        Check.due("a seventh", x.see(0, 50, 1), FULL);
        Check.due("bad ahead of full", x.see(0, 50, 31), BAD);
        Check.due("six", x.count(6), 6);
        Check.due("nothing to undo", x.count(7), 0);
    }

    /** Promise 20. */
    private static void forgetting() {
        LeaningWalls x = Check.laid("f0,4,10;f0,2,10;w0,1;");
        Check.due("nothing", x.forget(), 0);
        x.see(0, 0, 1);
        x.see(0, 1, 1);
        Check.due("two", x.forget(), 2);
        Check.due("nothing more", x.forget(), 0);
        Check.due("all would be so then", x.whoSick(), 64 | 3);
        Check.due("one anew", x.see(0, 0, 1), 1);
    }

    /** Promise 21. */
    private static void whoSick() {
        LeaningWalls x = Check.laid("f0,4,10;f0,2,10;f0,1,10;w0,1;");
        Check.due("nothing seen", x.whoSick(), 64 | 7);
        x.see(0, 53, 3);
        Check.due("all but the first being sick", x.whoSick(), 64 | 2 | 4);
        x.see(0, 52, 3);
        Check.due("a wall is at one place", x.whoSick(), 0);
        x.forget();
        x.see(0, 47, 3);
        Check.due("the first one is sick", x.whoSick(), 1);
        x.sick(0);
        Check.due("it is so as it is", x.whoSick(), 64 | 4);
        x.sick(2);
        Check.due("whether 2 is sick does not matter", x.whoSick(), 64 | 4);
        x.forget();
        x.see(0, 53, 3);
        Check.due("were the first one well", x.whoSick(), 1);
        LeaningWalls later = Check.laid("f0,4,30;f0,2,30;w0,1;");
        later.see(0, 53, 3);
        later.pass(3);
        Check.due("from now: it is at 56 then", later.whoSick(), 0);
        later.forget();
        later.see(0, 55, 3);
        later.see(0, 56, 3);
        Check.due("two places", later.whoSick(), 0);
        later.forget();
        later.see(0, 56, 4);
        later.see(0, 54, 1);
        Check.due("days in any order, with rest", later.whoSick(), 64 | 2);
        later.forget();
        // on days 3 to 32 there are four days of rest
        later.see(0, 79, 30);
        Check.due("thirty days on", later.whoSick(), 64 | 2);
    }

    /** Promise 22. */
    private static void kinds() {
        LeaningWalls x = Check.laid("f0,1,10;f0,1,10;w0,1;");
        Check.due("nothing seen", x.kinds(0), 31);
        Check.due("family 2", x.kinds(2), BAD);
        Check.due("family -1", x.kinds(-1), BAD);
        x.see(0, 50, 1);
        Check.due("alike: plain, moaner", x.kinds(0), 1 | 4);
        x.forget();
        x.see(0, 49, 1);
        Check.due("toward A: poet", x.kinds(0), 2);
        Check.due("toward A, by B: dog, hirer", x.kinds(1), 8 | 16);
        x.forget();
        x.see(0, 51, 1);
        Check.due("toward B: dog, hirer", x.kinds(0), 8 | 16);
        x.sick(0);
        Check.due("toward B though sick: moaner", x.kinds(0), 4);
        x.forget();
        x.see(0, 50, 1);
        Check.due("alike though sick: dog", x.kinds(0), 8);
        x.see(0, 51, 1);
        Check.due("never", x.kinds(0), 0);
        Check.due("the kind stays", x.family(0, 0), 0);
    }
}
