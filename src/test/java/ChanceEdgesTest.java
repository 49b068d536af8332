/** The edges of the second part of head 4 and of promises 23 to 26: idleness, years, what is kept. */
public final class ChanceEdgesTest {
    private static final int BAD = Check.BAD, NO = Check.NO, FULL = Check.FULL, NONE = Check.NONE;
    private static final String RACE = "f0,4,10;f0,2,10;w0,1;";
    private static final String SIX = "f0,3,20;f3,4,20;f2,5,20;f4,2,20;f0,6,20;f2,3,20;"
        + "w0,1;w1,2;w2,3;w3,4;w4,5;w5,0;w0,2;w1,3;";

    public static void main(String[] args) {
        idleByNoneAndByTen();
        idleLand();
        idleLowestTerms();
        idleAtAnyWall();
        idleOnTheNextDay();
        idleNumbers();
        yearNumbers();
        yearTurnsWhom();
        yearTurnsByDraw();
        yearOfEdgeDraws();
        yearsOfSixty();
        yearBeginsAtNought();
        yearOfOneFamily();
        yearMostLand();
        twoKept();
        backInTurn();
        backToAll();
        whatStays();
        nothingUndoneBehindBack();
        nothingKept();
        Check.end();
    }

    private static void chance(LeaningWalls x, int f, int l, int tenths, int above, int below) {
        String name = "idle(" + f + ", " + l + ", " + tenths + ")";
        Check.due(name + " above", x.idle(f, l, tenths, 0), above);
        Check.due(name + " below", x.idle(f, l, tenths, 1), below);
    }

    /** "by x (0 to 10) of ten": never, always. */
    private static void idleByNoneAndByTen() {
        LeaningWalls x = Check.laid(RACE);
        int[][] want = {{0, 11, 1, 1}, {0, 12, 0, 1}, {10, 10, 1, 1}, {10, 11, 0, 1}, {1, 11, 9, 10}, {9, 11, 1, 10},
            {5, 11, 1, 2}, {2, 11, 4, 5}, {8, 11, 1, 5}};
        for (int[] w : want) {
            chance(x, 0, w[1], w[0], w[2], w[3]);
        }
        LeaningWalls six = Check.laid(SIX);
        for (int f = 0; f < 6; f++) {
            chance(six, f, 20, 10, 1, 1);
            chance(six, f, 21, 10, 0, 1);
            int land = six.behind(1, f, 0);
            chance(six, f, land, 0, 1, 1);
            chance(six, f, land + 1, 0, 0, 1);
        }
    }

    /** "l (0 to 99) feet of LAND or more behind it" */
    private static void idleLand() {
        LeaningWalls x = Check.laid("f0,1,99;f1,0,0;f0,1,98;f0,1,9;f0,2,9;w3,4;");
        chance(x, 0, 99, 5, 1, 1);
        chance(x, 1, 0, 5, 1, 1);
        chance(x, 1, 1, 5, 0, 1);
        chance(x, 2, 98, 5, 1, 1);
        chance(x, 2, 99, 5, 0, 1);
        // 4 does more unless it is idle; then 3 does, unless it is, too
        chance(x, 3, 8, 3, 1, 1);
        chance(x, 3, 9, 3, 3, 10);
        chance(x, 3, 10, 3, 21, 100);
        chance(x, 3, 11, 3, 0, 1);
        LeaningWalls poor = Check.laid("f1,0,1;f0,1,0;w0,1;");
        chance(poor, 0, 0, 4, 1, 1);
        chance(poor, 0, 1, 4, 2, 5);
        chance(poor, 1, 1, 4, 3, 5);
    }

    /**
     * "in lowest terms", up to ten to the sixth: 0 wins four feet if it is not idle and 1 to 5 are, as 5 would take
     * the only foot of an idle 4 by wall 0.
     */
    private static void idleLowestTerms() {
        LeaningWalls x = Check.laid("f0,4,10;f0,1,5;f0,1,5;f0,1,5;f0,2,1;f0,1,5;w4,5;w0,1;w2,0;w0,3;w4,0;");
        chance(x, 0, 14, 0, 0, 1);
        chance(x, 0, 14, 1, 9, 1000000);
        chance(x, 0, 14, 2, 4, 15625);
        chance(x, 0, 14, 3, 1701, 1000000);
        chance(x, 0, 14, 4, 96, 15625);
        chance(x, 0, 14, 5, 1, 64);
        chance(x, 0, 14, 6, 486, 15625);
        chance(x, 0, 14, 7, 50421, 1000000);
        chance(x, 0, 14, 8, 1024, 15625);
        chance(x, 0, 14, 9, 59049, 1000000);
        chance(x, 0, 14, 10, 0, 1);
        chance(x, 0, 15, 5, 0, 1);
        chance(x, 0, 0, 9, 1, 1);
    }

    /** "does nothing at any WALL": who is idle is so at all of its walls at once; a dog, a hirer, too. */
    private static void idleAtAnyWall() {
        chance(Check.laid("f0,2,10;f1,0,5;f1,0,5;w0,1;w0,2;"), 0, 12, 3, 7, 10);
        chance(Check.laid("f0,2,10;f1,0,5;f1,0,5;w0,1;w0,2;"), 0, 11, 3, 7, 10);
        chance(Check.laid("f3,0,10;f1,0,5;w0,1;"), 0, 11, 3, 7, 10);
        chance(Check.laid("f4,0,10;f1,0,5;w0,1;"), 0, 11, 3, 7, 10);
        chance(Check.laid("f4,0,9;f1,0,5;w0,1;"), 0, 10, 3, 0, 1);
        // "for itself": each of both by three of ten
        chance(Check.laid("f1,0,10;f0,1,5;f0,1,5;w0,1;w0,2;"), 0, 10, 3, 9, 100);
        chance(Check.laid("f1,0,10;f0,1,5;f0,1,5;w0,1;w0,2;"), 0, 9, 3, 51, 100);
        chance(Check.laid("f1,0,10;f0,1,5;f0,1,5;w0,1;w0,2;"), 0, 8, 3, 1, 1);
        LeaningWalls sick = Check.laid("f3,5,10;f1,0,5;w0,1;");
        sick.sick(0);
        chance(sick, 0, 11, 3, 7, 10);
    }

    /** "on the next DAY .. else as told": on a day of rest all do nothing, idle or not. */
    private static void idleOnTheNextDay() {
        LeaningWalls x = Check.laid(RACE);
        for (int day = 0; day < 15; day++) {
            int land = x.family(0, 2);
            boolean rest = day == 6 || day == 13;
            boolean bare = x.family(1, 2) == 0;
            Check.due("above on day " + day, x.idle(0, land + 1, 3, 0), rest || bare ? 0 : 7);
            Check.due("below on day " + day, x.idle(0, land + 1, 3, 1), rest || bare ? 1 : 10);
            x.pass(1);
        }
    }

    private static void idleNumbers() {
        LeaningWalls x = Check.laid(RACE);
        for (int l = -1; l <= 101; l++) {
            boolean is = l >= 0 && l <= 99;
            Check.due("land " + l, x.idle(0, l, 10, 1), is ? 1 : BAD);
        }
        for (int tenths = -1; tenths <= 12; tenths++) {
            Check.due("tenths " + tenths, x.idle(0, 0, tenths, 0), tenths < 0 || tenths > 10 ? BAD : 1);
        }
        for (int part = -1; part <= 3; part++) {
            Check.due("part " + part, x.idle(0, 99, 10, part), part < 0 || part > 1 ? BAD : part);
        }
        for (int f = -1; f <= 3; f++) {
            Check.due("family " + f, x.idle(f, 0, 10, 0), f < 0 || f > 1 ? BAD : 1);
        }
    }

    private static void yearNumbers() {
        LeaningWalls x = Check.laid("f0,4,10;f3,1,99;");
        int[] years = {-2, -1, 0, 1, 5000, 9998, 9999, 10000, 10001};
        for (int z : years) {
            Check.due("year " + z, x.year(z, 60, 0), z < 0 || z > 9999 ? BAD : 99);
        }
        for (int n = -1; n <= 62; n++) {
            Check.due("days " + n, x.year(0, n, 0), n < 1 || n > 60 ? BAD : 99);
        }
        for (int what = -1; what <= 3; what++) {
            Check.due("what " + what, x.year(0, 1, what), what < 0 || what > 1 ? BAD : what == 0 ? 99 : 0);
        }
    }

    /** A county of as many as told, where but g and the next one have land, 50 and 40 feet: whom a year turns. */
    private static void turns(int z, int families, int g, int land, int feet) {
        StringBuilder text = new StringBuilder();
        int next = (g + 1) % families;
        for (int f = 0; f < families; f++) {
            text.append("f0,1,").append(f == g ? 50 : f == next ? 40 : 0).append(';');
        }
        LeaningWalls x = Check.laid(text.append("w").append(g).append(',').append(next).append(';').toString());
        Check.due("land of " + g + " of " + families + " in " + z, x.year(z, 1, 0), land);
        Check.due("feet of " + g + " of " + families + " in " + z, x.year(z, 1, 1), feet);
    }

    /** "FAMILY DRAW modulo as many as there are": the first and the last of each number. */
    private static void yearTurnsWhom() {
        int[][] years = {{0, 9996}, {1, 9989}, {0, 9996}, {1, 9986}, {34, 9989}, {0, 9996}, {1, 9989}, {2, 9945},
            {4, 9986}, {0, 9989}, {1, 9938}, {4, 9996}, {9, 9986}, {121, 9981}, {0, 9996}, {1, 9986}, {88, 9945},
            {4, 9958}, {9, 9973}, {34, 9989}};
        int row = 0;
        for (int families = 2; families <= 6; families++) {
            for (int turned = 0; turned < families; turned++) {
                for (int z : years[row]) {
                    for (int g = 0; g < families; g++) {
                        boolean isNext = (g + 1) % families == turned;
                        turns(z, families, g, g == turned ? 49 : isNext ? 51 : 50, g == turned || isNext ? 1 : 0);
                    }
                }
                row++;
            }
        }
    }

    /** "if (DRAW by 8, cut) modulo 3 is 0": draws of 7 and 8, 15 and 16, 23 and 24, 31 and 32, 55, 32752, 32759. */
    private static void yearTurnsByDraw() {
        turns(0, 2, 0, 49, 1);
        turns(8580, 2, 0, 51, 1);
        turns(4501, 2, 0, 50, 0);
        turns(1937, 2, 0, 50, 0);
        turns(7074, 2, 0, 50, 0);
        turns(5703, 2, 0, 50, 0);
        turns(7703, 2, 0, 49, 1);
        turns(4696, 2, 0, 51, 1);
        turns(1053, 2, 0, 50, 0);
        turns(6545, 2, 0, 51, 1);
        turns(9006, 2, 0, 50, 0);
        turns(3653, 2, 0, 50, 0);
        turns(7192, 2, 0, 50, 0);
    }

    private static void year(LeaningWalls x, int z, int n, int land, int feet) {
        Check.due("land in " + z + " behind " + n, x.year(z, n, 0), land);
        Check.due("feet in " + z + " behind " + n, x.year(z, n, 1), feet);
    }

    /** The most that a draw can be, 32760, on day 2 of 862; x that 65521 divides, so a draw of 0, on day 1 of 8058. */
    private static void yearOfEdgeDraws() {
        LeaningWalls x = Check.laid(SIX);
        year(x, 862, 2, 24, 6);
        year(x, 862, 3, 26, 11);
        year(x, 862, 4, 28, 16);
        year(x, 8058, 1, 22, 5);
        year(x, 8058, 2, 24, 8);
        year(x, 8058, 3, 26, 13);
    }

    /** The first and the last year, one day to sixty, told by another program. */
    private static void yearsOfSixty() {
        LeaningWalls x = Check.laid(SIX);
        int[] days = {1, 2, 7, 30, 59, 60};
        int[] years = {0, 1, 5000, 9998, 9999};
        int[][] land = {{22, 24, 30, 44, 58, 58}, {22, 24, 36, 58, 76, 76}, {22, 24, 26, 43, 84, 84},
            {22, 24, 32, 46, 67, 67}, {22, 24, 32, 35, 59, 60}};
        int[][] feet = {{5, 12, 36, 85, 124, 125}, {4, 10, 38, 115, 164, 165}, {4, 8, 24, 85, 146, 146},
            {3, 6, 23, 84, 137, 137}, {3, 6, 30, 69, 128, 130}};
        for (int i = 0; i < years.length; i++) {
            for (int j = 0; j < days.length; j++) {
                year(x, years[i], days[j], land[i][j], feet[i][j]);
            }
        }
    }

    /** "k-th (0 first)": a year's days are told from now on, whatever day it is; days of rest are the county's. */
    private static void yearBeginsAtNought() {
        LeaningWalls x = Check.laid("f1,1,90;f1,1,90;f1,1,90;f0,1,40;f0,1,50;w3,4;");
        // in 9981 family 4 turns ahead of the first day: 3 wins a foot
        for (int day = 0; day <= 14; day++) {
            boolean rest = day == 6 || day == 13;
            Check.due("feet from day " + day, x.year(9981, 1, 1), rest ? 0 : 1);
            Check.due("another year from day " + day, x.year(9, 1, 1), rest ? 0 : 1);
            Check.due("most land from day " + day, x.year(9981, 1, 0), 90);
            x.pass(1);
        }
        Check.due("nothing went by it", x.family(4, 2), 50);
        Check.due("nobody is sick by it", x.count(4), 0);
    }

    /** Modulo one it is always the only family, and nothing goes. */
    private static void yearOfOneFamily() {
        LeaningWalls x = Check.laid("f3,12,0;");
        year(x, 0, 60, 0, 0);
        year(x, 9999, 60, 0, 0);
        Check.due("it is well", x.family(0, 3), 0);
    }

    /** "LAND of the one that has most then": of several alike, of the last one, beyond 99 feet. */
    private static void yearMostLand() {
        year(Check.laid("f1,0,7;f1,0,7;f1,0,7;"), 3, 5, 7, 0);
        year(Check.laid("f1,0,7;f1,0,6;f1,0,8;"), 3, 5, 8, 0);
        year(Check.laid("f1,0,9;f1,0,6;f1,0,8;"), 3, 5, 9, 0);
        year(Check.laid("f1,0,0;f1,0,0;"), 3, 5, 0, 0);
        // a dog does one, sick or well: it wins 52 feet of a poet in sixty days
        year(Check.laid("f3,0,99;f1,0,99;w0,1;"), 77, 60, 151, 52);
        year(Check.laid("f3,0,99;f1,0,40;w0,1;"), 77, 60, 139, 40);
    }

    /** "2 at most": FULL, and what is kept stays as it was. */
    private static void twoKept() {
        LeaningWalls x = Check.laid(RACE);
        Check.due("one", x.keep(), 1);
        x.pass(1);
        Check.due("two", x.keep(), 2);
        x.pass(1);
        Check.due("three", x.keep(), FULL);
        Check.due("three again", x.keep(), FULL);
        Check.due("two are kept", x.count(8), 2);
        Check.due("the latest", x.back(), 1);
        Check.due("its day", x.count(3), 1);
        Check.due("the first one", x.back(), 0);
        Check.due("its day, too", x.count(3), 0);
    }

    /** "As KEPT last (it is KEPT no more then): how many are left", and counting goes on from there. */
    private static void backInTurn() {
        LeaningWalls x = Check.laid(RACE);
        x.keep();
        x.pass(3);
        x.keep();
        x.pass(4);
        Check.due("back to day 3", x.back(), 1);
        Check.due("day 3", x.count(3), 3);
        x.pass(2);
        Check.due("kept anew beside the first", x.keep(), 2);
        Check.due("full again", x.keep(), FULL);
        x.pass(30);
        Check.due("back to day 5", x.back(), 1);
        Check.due("day 5", x.count(3), 5);
        Check.due("back to day 0", x.back(), 0);
        Check.due("day 0", x.count(3), 0);
        Check.due("none left", x.back(), NO);
        Check.due("one again", x.keep(), 1);
        Check.due("back where it is", x.back(), 0);
        Check.due("day 0 still", x.count(3), 0);
    }

    /** "all as it stands": days, shares, sickness, land, where walls are. */
    private static void backToAll() {
        LeaningWalls x = lived();
        x.keep();
        x.pass(9);
        x.sick(0);
        x.sick(1);
        x.share(0, 0, 0);
        x.share(0, 0, 4);
        Check.due("back", x.back(), 0);
        LeaningWalls y = lived();
        y.keep();
        y.back();
        Stands.alike("back to all", x, y);
    }

    private static LeaningWalls lived() {
        LeaningWalls x = Check.laid(RACE + "t0,22;");
        x.share(0, 0, 3);
        x.pass(2);
        x.sick(1);
        return x;
    }

    /** "but what is SEEN and THE TEXT (these stay by back() ..)": what is more since then, and what is gone. */
    private static void whatStays() {
        LeaningWalls x = Check.laid(RACE);
        x.see(0, 50, 1);
        x.keep();
        x.see(0, 51, 1);
        x.write('f');
        x.back();
        Check.due("two are seen", x.count(6), 2);
        Check.due("a letter more", x.count(9), 22);
        x.keep();
        x.forget();
        x.wipe();
        x.back();
        Check.due("nothing is seen", x.count(6), 0);
        Check.due("no letters", x.count(9), 0);
        Check.due("no fault", x.fault(), NONE);
        Check.due("all would be so", x.whoSick(), 64 | 3);
    }

    /** "behind which nothing can be UNDONE", and which can't be undone itself. */
    private static void nothingUndoneBehindBack() {
        LeaningWalls x = Check.laid(RACE);
        x.pass(1);
        x.keep();
        Check.due("keeping leaves what can be undone", x.count(7), 1);
        for (int i = 0; i < 9; i++) {
            x.pass(1);
        }
        Check.due("eight", x.count(7), 8);
        Check.due("back", x.back(), 0);
        Check.due("none", x.count(7), 0);
        Check.due("undo", x.undo(), NO);
        Check.due("day 1 stays", x.count(3), 1);
        x.pass(1);
        Check.due("one again", x.count(7), 1);
        Check.due("undone", x.undo(), 0);
        Check.due("day 1 again", x.count(3), 1);
        // what is undone behind keeping does not touch what is kept
        x.pass(4);
        x.keep();
        x.undo();
        Check.due("day 1 once more", x.count(3), 1);
        Check.due("back to day 5", x.back(), 0);
        Check.due("day 5", x.count(3), 5);
    }

    /** "NO": what can be undone stays then. */
    private static void nothingKept() {
        Stands.unchanged("back, nothing kept", ChanceEdgesTest::lived, LeaningWalls::back, NO);
        LeaningWalls x = lived();
        x.keep();
        x.lay();
        Check.due("behind lay nothing is kept", x.back(), NO);
    }
}
