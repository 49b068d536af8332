/** The edges of head 3 and of promises 13 to 18: what comes, from now to the last day that can be asked. */
public final class ComingEdgesTest {
    private static final int BAD = Check.BAD, NONE = Check.NONE;
    private static final String RACE = "f0,4,10;f0,2,10;w0,1;t0,20;t0,21;";
    private static final String SIX_OF_EIGHT =
        "f0,1,9;f3,1,9;f2,1,9;f4,1,19;f1,1,9;f0,2,9;w0,1;w1,2;w2,3;w3,4;w4,5;w5,0;w0,2;w1,3;";

    public static void main(String[] args) {
        behindNoneIsNow();
        behindUpTo60();
        goneOfThoseWhoHave();
        goneBehind1To60();
        goneByDayThenFamily();
        goneAndBack();
        bestOfDays1To14();
        bestWaysFirstAndLast();
        bestOfAlike();
        bestOfAllHours();
        bestNotByFewer();
        bestAtKthWall();
        bestWithoutWall();
        enoughHours0To12();
        enoughOfDays1To14();
        enoughAtOnce();
        nextToUnlike();
        nextToSevenDays();
        nextToBehindAllOthers();
        nextToWithoutShare();
        nextToBeyondAllWalls();
        allWithoutWall();
        allFewestOfSeveral();
        allHoursToldAtFirst();
        allByOthersShares();
        allRoundsUpTo20();
        Check.end();
    }

    /** "BEHIND n DAYS (0 to 60)": behind 0 is now. */
    private static void behindNoneIsNow() {
        LeaningWalls x = Check.laid(RACE);
        for (int day = 0; day < 16; day++) {
            for (int k = 0; k < 2; k++) {
                Check.due("land now", x.behind(0, k, 0), x.family(k, 2));
                Check.due("tree now", x.behind(0, k, 2), x.tree(k));
            }
            Check.due("place now", x.behind(0, 0, 1), x.wall(0, 2) + 50);
            x.pass(1);
        }
    }

    private static void behindUpTo60() {
        for (int n = -2; n <= 62; n++) {
            LeaningWalls x = Check.laid(SIX_OF_EIGHT + "t0,21;");
            LeaningWalls y = Check.laid(SIX_OF_EIGHT + "t0,21;");
            if (n < 0 || n > 60) {
                Check.due("land behind " + n, x.behind(n, 0, 0), BAD);
                Check.due("place behind " + n, x.behind(n, 0, 1), BAD);
                Check.due("tree behind " + n, x.behind(n, 0, 2), BAD);
                continue;
            }
            for (int day = 0; day < n; day++) {
                y.pass(1);
            }
            for (int f = 0; f < 6; f++) {
                Check.due("land of " + f + " behind " + n, x.behind(n, f, 0), y.family(f, 2));
            }
            for (int w = 0; w < 8; w++) {
                Check.due("place of " + w + " behind " + n, x.behind(n, w, 1), y.wall(w, 2) + 50);
            }
            Check.due("tree behind " + n, x.behind(n, 0, 2), y.tree(0));
        }
    }

    /** "of FAMILIES that have LAND now" */
    private static void goneOfThoseWhoHave() {
        Check.due("none ever had any", Check.laid("f0,1,0;f1,1,0;w0,1;").gone(0), NONE);
        Check.due("none now", Check.laid("f0,1,5;f1,1,0;w0,1;").gone(0), NONE);
        Check.due("when, none now", Check.laid("f0,1,5;f1,1,0;w0,1;").gone(1), NONE);
        Check.due("a foot now", Check.laid("f0,1,5;f1,1,1;w0,1;").gone(0), 1);
        Check.due("nobody loses", Check.laid("f0,1,5;f0,1,5;w0,1;").gone(0), NONE);
        Check.due("no walls", Check.laid("f0,1,5;f0,1,5;").gone(1), NONE);
        String six = "f0,1,9;f0,1,9;f0,1,9;f0,1,9;f0,1,9;f1,1,#;w0,1;w2,3;w4,5;";
        Check.due("none of six", Check.laid(six.replace("#", "99")).gone(0), NONE);
        Check.due("none of six, when", Check.laid(six.replace("#", "99")).gone(1), NONE);
        Check.due("the last of six", Check.laid(six.replace("#", "9")).gone(0), 5);
    }

    /** "behind one of the next 60 DAYS": on day 0 they hold 52 days of work, on day 6 51. */
    private static void goneBehind1To60() {
        for (int land = 1; land <= 60; land++) {
            LeaningWalls x = Check.laid("f0,1,5;f1,1," + land + ";w0,1;");
            int behind = land + (land - 1) / 6;
            Check.due("who, " + land + " feet", x.gone(0), land <= 52 ? 1 : NONE);
            Check.due("behind, " + land + " feet", x.gone(1), land <= 52 ? behind : NONE);
            LeaningWalls y = Check.laid("f0,1,5;f0,1," + land + ";w0,1;");
            y.pass(6);
            y.share(1, 0, 0);
            Check.due("who, from a day of rest, " + land, y.gone(0), land <= 51 ? 1 : NONE);
            Check.due("behind, from a day of rest, " + land, y.gone(1), land <= 51 ? behind + 1 : NONE);
        }
    }

    /** "the first (by the DAY, then the FAMILY)" */
    private static void goneByDayThenFamily() {
        String three = "f0,9,9;f1,1,#;f1,1,#;f1,1,#;w0,3;w0,2;w0,1;";
        int[][] lands = {{5, 5, 5}, {6, 5, 5}, {6, 6, 5}, {5, 6, 5}, {0, 5, 5}, {6, 0, 5}};
        int[] who = {1, 2, 3, 1, 2, 3};
        for (int i = 0; i < lands.length; i++) {
            String text = three;
            for (int land : lands[i]) {
                text = text.replaceFirst("#", Integer.toString(land));
            }
            Check.due("who of " + text, Check.laid(text).gone(0), who[i]);
            Check.due("when of " + text, Check.laid(text).gone(1), 5);
        }
    }

    /** "that has none behind one of the next 60 DAYS": it may have a foot again behind the next one. */
    private static void goneAndBack() {
        // the dog's foot goes by wall 0; 2 wins a foot of 3 by wall 2, which the dog wins by wall 1 the day behind
        LeaningWalls x = Check.laid("f3,0,1;f0,3,0;f0,1,0;f1,0,90;w0,1;w0,2;w2,3;");
        x.share(2, 1, 0);
        x.share(2, 2, 1);
        Check.due("none behind a day", x.behind(1, 0, 0), 0);
        Check.due("a foot behind two", x.behind(2, 0, 0), 1);
        Check.due("gone all the same", x.gone(0), 0);
        Check.due("behind one", x.gone(1), 1);
    }

    /** "n (1 to 14) DAYS" */
    private static void bestOfDays1To14() {
        LeaningWalls x = Check.laid("f3,0,9;f1,0,90;w0,1;");
        for (int n = -1; n <= 16; n++) {
            Check.due("best of " + n, x.best(0, n, 0), n < 1 || n > 14 ? BAD : 9 + n - n / 7);
            Check.due("share of " + n, x.best(0, n, 1), n < 1 || n > 14 ? BAD : 0);
        }
        x.pass(6);
        Check.due("on a day of rest", x.best(0, 1, 0), 15);
        Check.due("fourteen from it", x.best(0, 14, 0), 15 + 12);
    }

    /** The very first, the very last way and those between: one wall needs all twelve hours, nothing is won else. */
    private static void bestWaysFirstAndLast() {
        for (int wall = 0; wall < 4; wall++) {
            StringBuilder text = new StringBuilder("f0,12,9;f0,11,9;f1,0,0;");
            for (int w = 0; w < 4; w++) {
                text.append(w == wall ? "w1,0;" : "w0,2;");
            }
            LeaningWalls x = Check.laid(text.toString());
            Check.due("land by wall " + wall, x.best(0, 1, 0), 10);
            for (int k = 1; k <= 4; k++) {
                Check.due("share " + k + " for wall " + wall, x.best(0, 1, k), k - 1 == wall ? 12 : 0);
            }
        }
    }

    /** "of several the first (more at its lowest WALL ahead of fewer, then at the next one, ..)" */
    private static void bestOfAlike() {
        // two feet by 2 1 0, by 2 0 1 and by 1 1 1; by 3 0 0 one
        ways("f0,3,9;f0,1,9;f1,0,9;f1,0,9;w0,1;w0,2;w0,3;", 11, 2, 1, 0);
        ways("f0,3,9;f1,0,9;f0,1,9;f1,0,9;w0,1;w0,2;w0,3;", 11, 1, 2, 0);
        ways("f0,4,9;f1,0,9;f1,0,9;f0,1,9;w0,1;w0,2;w0,3;", 12, 1, 1, 2);
        ways("f0,5,9;f1,0,9;f1,0,9;f0,1,9;w0,1;w0,2;w0,3;", 12, 2, 1, 2);
        // nothing is won or lost by any way
        ways("f0,12,0;f1,0,0;w0,1;w1,0;w0,1;w1,0;", 0, 12, 0, 0, 0);
        ways("f1,12,5;f1,0,5;w0,1;w1,0;w0,1;w1,0;", 5, 12, 0, 0, 0);
        LeaningWalls rest = Check.laid("f0,5,9;f1,0,0;f0,5,9;w0,1;w0,2;");
        rest.pass(6);
        Check.due("a day of rest, at the lowest wall", rest.best(0, 1, 1), 5);
        Check.due("a day of rest, at the next one", rest.best(0, 1, 2), 0);
        Check.due("a day behind it, at the lowest wall", rest.best(0, 2, 1), 0);
        Check.due("a day behind it, at the next one", rest.best(0, 2, 2), 5);
    }

    private static void ways(String text, int land, int... shares) {
        LeaningWalls x = Check.laid(text);
        Check.due("land of " + text, x.best(0, 1, 0), land);
        for (int k = 1; k <= shares.length; k++) {
            Check.due("share " + k + " of " + text, x.best(0, 1, k), shares[k - 1]);
        }
    }

    /** "all of its HOURS": none, twelve among four, and those that are not shared now. */
    private static void bestOfAllHours() {
        ways("f0,0,9;f1,0,9;w0,1;w1,0;w0,1;w1,0;", 9, 0, 0, 0, 0);
        ways("f0,12,9;f0,8,30;w0,1;w1,0;w0,1;w1,0;", 13, 3, 3, 3, 3);
        ways("f0,11,9;f0,8,30;w0,1;w1,0;w0,1;w1,0;", 12, 3, 3, 3, 2);
        LeaningWalls x = Check.laid("f0,12,9;f0,11,9;w0,1;");
        x.share(0, 0, 0);
        Check.due("as if all were shared", x.best(0, 1, 0), 10);
        Check.due("all of them", x.best(0, 1, 1), 12);
        Check.due("none is shared now", x.wall(0, 3), 0);
        Check.due("it loses as it is", x.behind(1, 0, 0), 8);
    }

    /** Fewer hours might leave more land behind 14 days, but all of them are shared. */
    private static void bestNotByFewer() {
        LeaningWalls x = Check.laid("f4,2,11;f3,1,7;f4,0,5;f3,3,1;w3,0;w1,3;w0,2;w0,1;");
        Check.due("no land by its hour", x.best(1, 14, 0), 0);
        Check.due("its hour at the lowest wall", x.best(1, 14, 1), 1);
        Check.due("none at the next one", x.best(1, 14, 2), 0);
        x.share(1, 1, 0);
        x.share(1, 3, 1);
        Check.due("no land either", x.behind(14, 1, 0), 0);
        x.share(1, 3, 0);
        Check.due("a foot without it", x.behind(14, 1, 0), 1);
        Check.due("its hour is shared all the same", x.best(1, 14, 0), 0);
    }

    /** "the SHARE at its k-th WALL (1 to 4; NONE: there are not so many)" */
    private static void bestAtKthWall() {
        String[] walls = {"w1,0;", "w0,1;", "w0,1;", "w1,0;"};
        StringBuilder text = new StringBuilder("f0,12,9;f1,0,0;");
        for (int many = 1; many <= 4; many++) {
            text.append(walls[many - 1]);
            LeaningWalls x = Check.laid(text.toString());
            for (int k = -1; k <= 6; k++) {
                int want = k < 0 || k > 4 ? BAD : k > many ? NONE : k == 0 ? 9 : k == 1 ? 12 : 0;
                Check.due("k " + k + " of " + many + " walls", x.best(0, 1, k), want);
            }
        }
        // the k-th one of its own walls, those of others not told
        LeaningWalls x = Check.laid("f0,5,9;f1,0,0;f0,4,9;w1,2;w1,0;w2,1;w2,0;");
        x.share(2, 0, 0);
        x.share(2, 2, 0);
        x.share(2, 3, 4);
        Check.due("its first wall is wall 1", x.best(0, 1, 1), 0);
        Check.due("its second wall is wall 3", x.best(0, 1, 2), 5);
        Check.due("it has no third", x.best(0, 1, 3), NONE);
    }

    /** "none (it has no WALL)" */
    private static void bestWithoutWall() {
        LeaningWalls x = Check.laid("f0,5,9;f1,0,0;f0,4,9;w1,2;");
        for (int k = 0; k <= 4; k++) {
            Check.due("no wall, k " + k, x.best(0, 14, k), NONE);
        }
        Check.due("no wall, k 5", x.best(0, 14, 5), BAD);
        Check.due("no wall, days 15", x.best(0, 15, 0), BAD);
        Check.due("one has a wall", x.best(2, 1, 1), 4);
    }

    /** "the fewest HOURS (0 to 12, whatever it has)" */
    private static void enoughHours0To12() {
        for (int other = 0; other <= 12; other++) {
            Check.due("as many as " + other, Check.laid("f0,0,9;f0," + other + ",9;w0,1;").enough(0, 1), other);
            Check.due("as many, of twelve", Check.laid("f0,12,9;f0," + other + ",9;w0,1;").enough(0, 1), other);
            Check.due("one more by the dog", Check.laid("f0,0,9;f3," + other + ",9;w0,1;").enough(0, 1),
                other < 12 ? other + 1 : NONE);
            Check.due("one fewer by the dog", Check.laid("f3,0,9;f0," + other + ",9;w0,1;").enough(0, 1),
                Math.max(0, other - 1));
        }
        Check.due("a dog of twelve has thirteen", Check.laid("f3,0,9;f3,12,9;w0,1;").enough(0, 1), 12);
        // evenly: six at each of both
        Check.due("six and six", Check.laid("f0,0,9;f0,6,9;f0,6,9;w0,1;w0,2;").enough(0, 1), 12);
        Check.due("six and seven", Check.laid("f0,0,9;f0,6,9;f0,7,9;w0,1;w0,2;").enough(0, 1), NONE);
        Check.due("seven and six", Check.laid("f0,0,9;f0,7,9;f0,6,9;w0,1;w0,2;").enough(0, 1), NONE);
        Check.due("a foot less is less", Check.laid("f1,0,99;f0,1,9;w0,1;").enough(0, 1), NONE);
        Check.due("no land is no less than none", Check.laid("f1,0,0;f0,1,9;w0,1;").enough(0, 14), 0);
        Check.due("no wall", Check.laid("f0,12,9;").enough(0, 14), 0);
    }

    private static void enoughOfDays1To14() {
        LeaningWalls x = Check.laid("f0,5,9;f0,3,9;w0,1;");
        for (int n = -1; n <= 16; n++) {
            Check.due("enough for " + n, x.enough(0, n), n < 1 || n > 14 ? BAD : 3);
        }
        x.pass(6);
        Check.due("for a day of rest", x.enough(0, 1), 0);
        Check.due("for the day behind it", x.enough(0, 2), 3);
    }

    /** "by which it has no less LAND behind them than now": behind the last of them, whatever comes between. */
    private static void enoughAtOnce() {
        // the hirer hires two: it loses a foot a day by wall 1, and wins one of the poet's by wall 0
        LeaningWalls x = Check.laid("f4,0,10;f1,0,99;f0,9,9;w0,1;w0,2;");
        Check.due("a foot comes, a foot goes", x.enough(0, 14), 0);
        LeaningWalls y = Check.laid("f4,0,9;f1,0,99;f0,9,9;w0,1;w0,2;");
        Check.due("nine feet: an hour for the poet's wall", y.enough(0, 14), 1);
        LeaningWalls z = Check.laid("f0,0,9;f1,0,1;f0,9,9;w0,1;w0,2;");
        Check.due("a foot comes on the first day", z.enough(0, 1), 1);
        Check.due("and none on the second one", z.enough(0, 2), NONE);
    }

    /** "BAD (alike, too)" */
    private static void nextToUnlike() {
        LeaningWalls x = Check.laid(SIX_OF_EIGHT);
        for (int f = -1; f <= 6; f++) {
            for (int g = -1; g <= 6; g++) {
                boolean is = f != g && f >= 0 && f < 6 && g >= 0 && g < 6;
                Check.due("next to, " + f + ", " + g, x.nextTo(f, g) == BAD ? 0 : 1, is ? 1 : 0);
            }
        }
        Check.due("one family", Check.laid("f0,1,9;").nextTo(0, 0), BAD);
    }

    /** "behind 7 DAYS": six of them are of work, from whichever day on. */
    private static void nextToSevenDays() {
        LeaningWalls x = Check.laid("f3,0,90;f1,0,90;f1,0,90;");
        for (int day = 0; day <= 14; day++) {
            Check.due("the dog on day " + day, x.nextTo(0, 1), 56);
            Check.due("the poet on day " + day, x.nextTo(1, 0), 44);
            Check.due("two poets on day " + day, x.nextTo(1, 2), 50);
            x.pass(1);
        }
        for (int land = 0; land <= 8; land++) {
            LeaningWalls y = Check.laid("f3,0,0;f1,0," + land + ";");
            Check.due("to win of " + land, y.nextTo(0, 1), 50 + Math.min(land, 6));
            Check.due("to lose of " + land, y.nextTo(1, 0), 50 - Math.min(land, 6));
        }
    }

    /** "behind all others": what the others take of the last feet is not there any more. */
    private static void nextToBehindAllOthers() {
        Check.due("one foot", Check.laid("f3,0,0;f1,0,1;f3,0,0;w1,2;").nextTo(0, 1), 50);
        Check.due("five feet", Check.laid("f3,0,0;f1,0,5;f3,0,0;w1,2;").nextTo(0, 1), 52);
        Check.due("six feet", Check.laid("f3,0,0;f1,0,6;f3,0,0;w2,1;").nextTo(0, 1), 53);
        // the foot that comes by a lower wall can go by the new one on that day
        Check.due("a foot that comes", Check.laid("f3,9,0;f0,1,0;f1,0,9;w1,2;").nextTo(0, 1), 56);
    }

    /** "the SHARE of both is 0 there" */
    private static void nextToWithoutShare() {
        Check.due("twelve hours are nothing there", Check.laid("f0,12,9;f1,0,9;").nextTo(0, 1), 50);
        Check.due("nor with a wall", Check.laid("f0,12,9;f1,0,9;w0,1;").nextTo(0, 1), 50);
        Check.due("a dog's hours are one", Check.laid("f3,12,9;f3,0,9;").nextTo(0, 1), 50);
        Check.due("ten feet hire two", Check.laid("f4,0,10;f3,0,20;").nextTo(0, 1), 56);
        Check.due("nine feet hire none", Check.laid("f4,12,9;f3,0,20;").nextTo(0, 1), 44);
        LeaningWalls sick = Check.laid("f3,12,10;f4,0,20;f2,12,10;");
        sick.sick(0);
        sick.sick(1);
        sick.sick(2);
        Check.due("a sick dog is one", sick.nextTo(0, 1), 56);
        Check.due("a sick moaner is none", sick.nextTo(2, 0), 44);
        Check.due("a sick hirer is none", sick.nextTo(1, 2), 50);
    }

    /** A fifth wall of a family, a ninth one of the county; none of it stays. */
    private static void nextToBeyondAllWalls() {
        String text = "f3,0,50;f1,0,50;f1,0,9;f1,0,9;w0,1;w0,1;w1,0;w1,0;w2,3;w2,3;w2,3;w2,3;";
        LeaningWalls x = Check.laid(text);
        for (int i = 0; i < 3; i++) {
            Check.due("a fifth and ninth one", x.nextTo(0, 1), 56);
            Check.due("from the other side", x.nextTo(1, 0), 44);
            Check.due("between others", x.nextTo(0, 3), 56);
        }
        Check.due("eight walls", x.count(1), 8);
        Check.due("four of each", x.family(0, 4), 4);
        Check.due("no ninth one", x.wall(8, 0), BAD);
        Stands.alike("behind next to", x, Check.laid(text));
    }

    /** No wall, no hours: settled in the first round if none are told, else in the second. */
    private static void allWithoutWall() {
        Check.due("none told", Check.laid("f0,0,9;").all(0), 0);
        Check.due("twelve told", Check.laid("f0,12,9;").all(0), 0);
        LeaningWalls six = Check.laid("f0,1,9;f1,2,9;f2,3,9;f3,4,9;f4,5,9;f0,12,9;");
        for (int f = -1; f <= 6; f++) {
            Check.due("six without a wall, " + f, six.all(f), f < 0 || f > 5 ? BAD : 0);
        }
    }

    /** "its LAND behind 7 DAYS less these HOURS is most .., of several the fewest" */
    private static void allFewestOfSeveral() {
        for (int land = 0; land <= 9; land++) {
            LeaningWalls x = Check.laid("f0,12,9;f1,12," + land + ";w0,1;");
            // an hour that wins one foot is no better than none
            Check.due("an hour for " + land + " feet", x.all(0), land < 2 ? 0 : 1);
            Check.due("the poet's", x.all(1), 0);
        }
        // a sick dog does one thing at each wall: two hours win six feet, one hour keeps what is left
        String[] walls = {"w0,1;", "w0,1;w0,2;", "w0,1;w0,2;w0,3;", "w0,1;w0,2;w0,3;w0,4;"};
        for (int many = 1; many <= 4; many++) {
            LeaningWalls x = Check.laid("f0,0,50;f3,9,50;f3,9,50;f3,9,50;f3,9,50;" + walls[many - 1]);
            for (int f = 1; f <= 4; f++) {
                x.sick(f);
            }
            Check.due("two hours at each of " + many, x.all(0), 2 * many);
            Check.due("the dog's", x.all(1), 0);
        }
    }

    /** "at first HOURS are those told": they are, whatever is shared, and an unchanged first round is the last. */
    private static void allHoursToldAtFirst() {
        LeaningWalls x = Check.laid("f0,1,9;f1,0,9;w0,1;");
        Check.due("as told", x.all(0), 1);
        x.share(0, 0, 0);
        Check.due("as told, though not shared", x.all(0), 1);
        // by the two hours that stand three are best, then four by those three: nobody's hours have changed,
        // though five would be best by the four
        LeaningWalls y = Check.laid("f0,3,6;f0,4,6;w0,1;");
        Check.due("by four five are best, and so on", y.all(0), NONE);
        y.share(1, 0, 2);
        Check.due("three, as told", y.all(0), 3);
        Check.due("four, as told", y.all(1), 4);
    }

    /** "the others' SHARES being as they are by then": who comes first takes both feet of the poet. */
    private static void allByOthersShares() {
        LeaningWalls x = Check.laid("f1,0,2;f0,4,0;f0,2,0;w0,2;w1,0;");
        // by the hours of 2 a foot is left to 1, which is worth no hour; then 2 takes both feet by one hour
        int[] asLaid = {0, 0, 1};
        int[] shared = {0, 1, 0};
        for (int f = 0; f < 3; f++) {
            Check.due("as laid, " + f, x.all(f), asLaid[f]);
        }
        x.share(2, 0, 0);
        for (int f = 0; f < 3; f++) {
            Check.due("2 does nothing now, " + f, x.all(f), shared[f]);
        }
    }

    /**
     * "behind the first round (of 20 at most) in which nobody's HOURS change: HOURS of a FAMILY; none": by the first
     * shares that is the twenty-first round, by those that the first round of them makes the twentieth.
     */
    private static void allRoundsUpTo20() {
        LeaningWalls x = Check.laid("f0,12,0;f2,12,27;f2,12,15;f4,12,6;f0,12,12;"
            + "w4,3;w3,2;w1,0;w2,1;w4,3;w0,4;w4,2;w2,3;");
        shareAll(x, new int[][] {{0, 5}, {3, 0}, {4, 4}, {0, 1}, {2, 3}, {6, 1}, {8, 4}, {3, 1}});
        for (int f = 0; f < 5; f++) {
            Check.due("settled too late, " + f, x.all(f), NONE);
        }
        // 9, 11, 0, 4, 6 hours, evenly
        shareAll(x, new int[][] {{2, 1}, {1, 0}, {6, 5}, {0, 5}, {2, 1}, {4, 1}, {1, 0}, {0, 1}});
        int[] settled = {0, 8, 12, 12, 0};
        for (int f = 0; f < 5; f++) {
            Check.due("settled in the last round, " + f, x.all(f), settled[f]);
        }
    }

    /** Shares of A and B at each wall, told when all others are none. */
    private static void shareAll(LeaningWalls x, int[][] shares) {
        for (int w = 0; w < shares.length; w++) {
            x.share(x.wall(w, 0), w, 0);
            x.share(x.wall(w, 1), w, 0);
        }
        for (int w = 0; w < shares.length; w++) {
            for (int side = 0; side < 2; side++) {
                int f = x.wall(w, side);
                Check.due("shared at wall " + w, x.share(f, w, shares[w][side]) >= 0 ? 1 : 0, 1);
            }
        }
    }
}
