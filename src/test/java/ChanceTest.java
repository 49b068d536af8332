/** Promises 23 to 26: idleness, years, what is kept. */
public final class ChanceTest {
    private static final int BAD = Check.BAD, NO = Check.NO, FULL = Check.FULL;

    public static void main(String[] args) {
        idle();
        idleAtTheEdges();
        year();
        yearOfDraws();
        keeping();
        Check.end();
    }

    /** Promise 23. */
    private static void idle() {
        LeaningWalls x = Check.laid("f0,4,10;f0,2,10;w0,1;");
        // 0 loses a foot if it alone is idle, wins one if it is not
        chance(x, 0, 11, 3, 7, 10);
        chance(x, 0, 10, 3, 79, 100);
        chance(x, 0, 9, 3, 1, 1);
        chance(x, 0, 12, 3, 0, 1);
        chance(x, 1, 11, 3, 21, 100);
        chance(x, 1, 10, 3, 3, 10);
        chance(x, 0, 11, 5, 1, 2);
        x.sick(0);
        // 1 does more, unless it is idle; 0 does nothing anyway
        chance(x, 0, 10, 4, 2, 5);
        LeaningWalls dog = Check.laid("f3,0,10;f4,0,10;w0,1;");
        chance(dog, 0, 11, 2, 4, 25);
        chance(dog, 0, 10, 2, 1, 5);
    }

    private static void chance(LeaningWalls x, int f, int l, int x10, int above, int below) {
        String name = "idle(" + f + ", " + l + ", " + x10 + ")";
        Check.due(name + " above", x.idle(f, l, x10, 0), above);
        Check.due(name + " below", x.idle(f, l, x10, 1), below);
    }

    private static void idleAtTheEdges() {
        LeaningWalls x = Check.laid("f0,4,10;f0,2,10;w0,1;");
        chance(x, 0, 11, 0, 1, 1);
        chance(x, 0, 12, 0, 0, 1);
        chance(x, 0, 11, 10, 0, 1);
        chance(x, 0, 10, 10, 1, 1);
        chance(x, 0, 0, 7, 1, 1);
        chance(x, 0, 99, 7, 0, 1);
        Check.due("family 2", x.idle(2, 1, 1, 0), BAD);
        Check.due("family -1", x.idle(-1, 1, 1, 0), BAD);
        Check.due("land 100", x.idle(0, 100, 1, 0), BAD);
        Check.due("land -1", x.idle(0, -1, 1, 0), BAD);
        Check.due("tenths 11", x.idle(0, 1, 11, 0), BAD);
        Check.due("tenths -1", x.idle(0, 1, -1, 0), BAD);
        Check.due("part 2", x.idle(0, 1, 1, 2), BAD);
        Check.due("part -1", x.idle(0, 1, 1, -1), BAD);
        LeaningWalls six = Check.laid("f0,1,9;f0,1,9;f0,1,9;f0,1,9;f0,1,9;f0,1,9;w0,1;w0,2;w0,3;w4,5;");
        six.share(0, 0, 0);
        // 0 has three feet fewer if none of 1, 2, 3 is idle
        chance(six, 0, 7, 1, 271, 1000);
        x.pass(6);
        chance(x, 0, 16, 3, 1, 1);
        chance(x, 0, 17, 3, 0, 1);
    }

    /** Promise 24: how far numbers go. */
    private static void year() {
        LeaningWalls x = new LeaningWalls();
        Check.due("z -1", x.year(-1, 1, 0), BAD);
        Check.due("z 10000", x.year(10000, 1, 0), BAD);
        Check.due("days 0", x.year(0, 0, 0), BAD);
        Check.due("days 61", x.year(0, 61, 0), BAD);
        Check.due("what -1", x.year(0, 1, -1), BAD);
        Check.due("what 2", x.year(0, 1, 2), BAD);
        LeaningWalls alone = Check.laid("f0,4,10;f3,1,99;");
        Check.due("most land of two without a wall", alone.year(9999, 60, 0), 99);
        Check.due("no feet", alone.year(9999, 60, 1), 0);
    }

    /**
     * Promise 24: z = 0. x is 1, 6152, 12303, ..; the first draw is 0 (1 by 2, cut): 0 turns. The second one is
     * 6152 x 6152 = 37847104 modulo 65521 = 41487, by 2: 20743; by 8: 2592, modulo 3: 0: of two families 1 turns.
     */
    private static void yearOfDraws() {
        LeaningWalls x = Check.laid("f0,4,10;f0,2,10;w0,1;");
        Check.due("land: 0 is sick", x.year(0, 1, 0), 11);
        Check.due("feet", x.year(0, 1, 1), 1);
        Check.due("land: both are sick", x.year(0, 2, 0), 11);
        Check.due("feet of both", x.year(0, 2, 1), 1);
        x.sick(0);
        // ahead of the first day 0 gets well, ahead of the second one 1 falls sick
        Check.due("land: 0 is well again", x.year(0, 2, 0), 12);
        x.sick(0);
        x.pass(6);
        // the day of rest is the first one; then both are sick
        Check.due("days of rest are those of the county", x.year(0, 2, 1), 0);
        Check.due("land on them", x.year(0, 2, 0), 16);
        Check.due("nobody is sick by it", x.count(4), 0);
        farYears();
    }

    /** Years whose x times x is far beyond an int. */
    private static void farYears() {
        LeaningWalls x = Check.laid("f0,2,10;f0,4,20;w0,1;");
        // x is 79182082, x times x modulo 65521 is 51303, by 2 25651, by 8 3206, modulo 3 is 2
        Check.due("nobody turns in 9999", x.year(9999, 1, 0), 21);
        // x is 79158325: 30145, by 2 15072, by 8 1884, modulo 3 is 0, 15072 modulo 2 is 0
        Check.due("0 turns in 9996", x.year(9996, 1, 0), 21);
        // x is 79102892: 53290, by 2 26645, by 8 3330, modulo 3 is 0, 26645 modulo 2 is 1
        Check.due("1 turns in 9989", x.year(9989, 1, 0), 19);
        x.sick(0);
        x.share(1, 0, 1);
        Check.due("0 is well again in 9996", x.year(9996, 1, 0), 19);
        Check.due("0 stays sick in 9999", x.year(9999, 1, 0), 21);
    }

    /** Promises 25 and 26. */
    private static void keeping() {
        LeaningWalls x = Check.laid("f0,4,10;f0,2,10;w0,1;");
        Check.due("nothing is kept", x.back(), NO);
        x.pass(2);
        x.sick(1);
        x.share(0, 0, 3);
        Check.due("keep one", x.keep(), 1);
        Check.due("keeping is nothing to undo", x.count(7), 3);
        x.pass(5);
        Check.due("keep two", x.keep(), 2);
        Check.due("keep three", x.keep(), FULL);
        Check.due("two are kept", x.count(8), 2);
        x.pass(30);
        x.sick(1);
        x.see(0, 50, 1);
        Check.due("back to the latest", x.back(), 1);
        Check.due("its day", x.count(3), 7);
        Check.due("1 is sick", x.family(1, 3), 1);
        Check.due("what is seen stays", x.count(6), 1);
        Check.due("the text stays", x.count(9), 21);
        Check.due("nothing can be undone", x.count(7), 0);
        Check.due("undo", x.undo(), NO);
        x.share(0, 0, 1);
        Check.due("back to the first", x.back(), 0);
        Check.due("its day, too", x.count(3), 2);
        Check.due("its share", x.wall(0, 3), 3);
        Check.due("its place", x.wall(0, 2), 52);
        Check.due("its land", x.family(0, 2), 12);
        Check.due("no sharing can be undone", x.undo(), NO);
        Check.due("nothing more is kept", x.back(), NO);
        Check.due("keep anew", x.keep(), 1);
        x.pass(1);
        x.back();
        Check.due("as kept anew", x.count(3), 2);
    }
}
