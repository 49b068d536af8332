/** The edges of the first part of head 4 and of promises 19 to 22: what is seen, who is sick, of which kind one is. */
public final class SeenEdgesTest {
    private static final int BAD = Check.BAD, FULL = Check.FULL;
    private static final String POET_AS_A = "f1,0,90;f0,1,0;w0,1;";
    private static final String POET_AS_B = "f0,1,0;f1,0,90;w0,1;";
    private static final String SIX = "f0,1,9;f0,1,9;f0,1,9;f0,1,9;f0,1,9;f0,1,9;";

    public static void main(String[] args) {
        placesAndDays();
        sixAtMost();
        seenBeginsAgain();
        farthestPlaces();
        daysFromNow();
        asItStandsWhenAsked();
        nothingSeen();
        eachOfSix();
        eachFamilyAlone();
        otherwiseThanItIs();
        kindsOfNone();
        kindsOfNineAndTenFeet();
        kindsOfTheSick();
        kindsOfOneWithoutWall();
        highestWall();
        Check.end();
    }

    private static void placesAndDays() {
        for (int v = -2; v <= 101; v++) {
            Check.due("place " + v, Check.laid(POET_AS_A).see(0, v, 1), v < 0 || v > 99 ? BAD : 1);
        }
        for (int t = -1; t <= 32; t++) {
            Check.due("days " + t, Check.laid(POET_AS_A).see(0, 50, t), t < 1 || t > 30 ? BAD : 1);
        }
        for (int w = -1; w <= 7; w++) {
            Check.due("wall " + w, new LeaningWalls().see(w, 50, 1), w < 0 || w > 5 ? BAD : 1);
        }
        Check.due("no wall at all", Check.laid("f0,1,9;").see(0, 50, 1), BAD);
    }

    /** "SEEN (6 at most)", the same one six times, too: FULL, and nothing is seen more. */
    private static void sixAtMost() {
        LeaningWalls x = Check.laid(POET_AS_A);
        for (int i = 1; i <= 6; i++) {
            Check.due("seen " + i, x.see(0, 49, 1), i);
            Check.due("how many", x.count(6), i);
        }
        Check.due("a seventh", x.see(0, 0, 1), FULL);
        Check.due("a seventh alike", x.see(0, 49, 1), FULL);
        Check.due("bad ahead of full", x.see(0, 100, 1), BAD);
        Check.due("six", x.count(6), 6);
        Check.due("the seventh is not asked for", x.whoSick(), 64 | 1);
    }

    /** "Nothing is SEEN: how many were." */
    private static void seenBeginsAgain() {
        LeaningWalls x = Check.laid(POET_AS_A);
        Check.due("none were", x.forget(), 0);
        for (int many = 1; many <= 6; many++) {
            for (int i = 1; i <= many; i++) {
                Check.due("seen again", x.see(0, 0, 30), i);
            }
            Check.due("not so", x.whoSick(), 0);
            Check.due("forgotten", x.forget(), many);
            Check.due("none are", x.count(6), 0);
            Check.due("all would be so", x.whoSick(), 64 | 3);
        }
        Check.due("none again", x.forget(), 0);
    }

    /** "at v (0 to 99) less 50": from day 30 on the wall is 49 feet away behind 27 days, 50 feet behind 28. */
    private static void farthestPlaces() {
        LeaningWalls toA = Check.laid(POET_AS_A);
        LeaningWalls toB = Check.laid(POET_AS_B);
        toA.pass(30);
        toB.pass(30);
        toA.see(0, 0, 28);
        Check.due("at -50", toA.whoSick(), 64 | 1);
        toA.see(0, 1, 27);
        Check.due("at -49 a day ahead", toA.whoSick(), 64 | 1);
        toA.see(0, 0, 27);
        Check.due("not at both on one day", toA.whoSick(), 0);
        toB.see(0, 99, 27);
        Check.due("at 49", toB.whoSick(), 64 | 2);
        toB.see(0, 98, 26);
        Check.due("at 48 a day ahead", toB.whoSick(), 64 | 2);
        toB.see(0, 99, 28);
        Check.due("not at 49 on both days", toB.whoSick(), 0);
    }

    /** "behind t (1 to 30) DAYS from now": one day, the day of rest, thirty days (26 of work). */
    private static void daysFromNow() {
        int[][] so = {{49, 1}, {48, 2}, {44, 6}, {44, 7}, {43, 8}, {25, 29}, {24, 30}};
        for (int[] s : so) {
            for (int v = s[0] - 1; v <= s[0] + 1; v++) {
                LeaningWalls x = Check.laid(POET_AS_A);
                x.see(0, v, s[1]);
                Check.due("at " + v + " behind " + s[1], x.whoSick(), v == s[0] ? 64 | 1 : v == 50 ? 2 : 0);
            }
        }
        LeaningWalls x = Check.laid(POET_AS_A);
        int[][] six = {{24, 30}, {49, 1}, {44, 7}, {44, 6}, {25, 29}, {43, 8}};
        for (int i = 0; i < six.length; i++) {
            x.see(0, six[i][0], six[i][1]);
            Check.due("in any order, " + i, x.whoSick(), 64 | 1);
        }
    }

    /** "(now: as it stands when that is asked)": behind days, what is undone, gone back to and shared. */
    private static void asItStandsWhenAsked() {
        LeaningWalls x = Check.laid(POET_AS_A);
        x.see(0, 48, 2);
        Check.due("on day 0", x.whoSick(), 64 | 1);
        x.keep();
        x.pass(1);
        Check.due("on day 1", x.whoSick(), 0);
        x.undo();
        Check.due("day 1 undone", x.whoSick(), 64 | 1);
        x.share(1, 0, 0);
        Check.due("no share", x.whoSick(), 0);
        x.back();
        Check.due("gone back", x.whoSick(), 64 | 1);
        x.sick(1);
        Check.due("1 is sick: were it well", x.whoSick(), 2);
        x.pass(5);
        Check.due("day 5", x.whoSick(), 0);
    }

    /** All that is SEEN, nothing, would be so by every family, sick or well, and by every kind. */
    private static void nothingSeen() {
        for (int many = 1; many <= 6; many++) {
            LeaningWalls x = Check.laid(SIX.substring(0, 7 * many));
            Check.due("nothing seen, of " + many, x.whoSick(), 64 | (1 << many) - 1);
            for (int f = -1; f <= 6; f++) {
                Check.due("kinds of " + f + " of " + many, x.kinds(f), f < 0 || f >= many ? BAD : 31);
            }
        }
    }

    /** The bits of all six, one by one: two alike at a wall, which leans to the one that is sick. */
    private static void eachOfSix() {
        for (int f = 0; f < 6; f++) {
            LeaningWalls asA = Check.laid(SIX + "w" + f + "," + (f + 1) % 6 + ";");
            asA.see(0, 49, 1);
            Check.due("toward A, " + f, asA.whoSick(), 1 << f);
            asA.forget();
            asA.see(0, 51, 1);
            Check.due("toward B, " + (f + 1) % 6, asA.whoSick(), 1 << (f + 1) % 6);
            asA.forget();
            asA.see(0, 50, 1);
            Check.due("alike, all but both", asA.whoSick(), 64 | 63 - (1 << f) - (1 << (f + 1) % 6));
        }
    }

    /** "such that, were it otherwise with that one's sickness": each alone, not two together. */
    private static void eachFamilyAlone() {
        LeaningWalls x = Check.laid(SIX + "w0,1;w2,3;");
        x.see(0, 49, 1);
        x.see(1, 49, 1);
        Check.due("it would take two", x.whoSick(), 0);
        x.sick(0);
        Check.due("one is sick, one more would be", x.whoSick(), 4);
        x.sick(2);
        Check.due("both are", x.whoSick(), 64 | 48);
    }

    /** "were it otherwise": a sick one well, and as it is. */
    private static void otherwiseThanItIs() {
        LeaningWalls x = Check.laid(SIX + "w4,5;");
        x.sick(5);
        x.see(0, 50, 1);
        // 5 well, or 4 sick, too
        Check.due("alike", x.whoSick(), 16 | 32);
        x.forget();
        x.see(0, 51, 1);
        Check.due("as it is", x.whoSick(), 64 | 15);
        Check.due("5 is sick still", x.family(5, 3), 1);
        Check.due("4 is well still", x.family(4, 3), 0);
        Check.due("nothing is undone by it", x.count(7), 1);
    }

    private static void kindsOfNone() {
        LeaningWalls x = Check.laid(POET_AS_A);
        x.see(0, 0, 1);
        Check.due("none of 0", x.kinds(0), 0);
        Check.due("none of 1", x.kinds(1), 0);
        Check.due("family 2", x.kinds(2), BAD);
        Check.due("family -1", x.kinds(-1), BAD);
    }

    /** Without hours: nothing, a dog's one, a hirer's two, if it has ten feet. */
    private static void kindsOfNineAndTenFeet() {
        for (int land = 9; land <= 10; land++) {
            LeaningWalls x = Check.laid("f0,0," + land + ";f0,1,9;w0,1;");
            x.see(0, 49, 1);
            Check.due("toward it, " + land, x.kinds(0), land == 10 ? 7 : 23);
            x.forget();
            x.see(0, 50, 1);
            Check.due("alike, " + land, x.kinds(0), 8);
            x.forget();
            x.see(0, 51, 1);
            Check.due("toward the other one, " + land, x.kinds(0), land == 10 ? 16 : 0);
        }
    }

    /** Of three hours, sick: nothing by plain ones, poets, hirers; six by a moaner; one by a dog. */
    private static void kindsOfTheSick() {
        LeaningWalls x = Check.laid("f1,3,20;f0,1,9;f0,5,20;w0,1;w0,2;");
        x.sick(0);
        x.share(0, 0, 0);
        x.share(0, 1, 3);
        x.see(1, 51, 1);
        Check.due("six are more than five: a moaner", x.kinds(0), 4);
        x.forget();
        x.see(0, 50, 1);
        Check.due("one is as many as one: a dog", x.kinds(0), 8);
        x.forget();
        x.see(0, 49, 1);
        x.see(1, 49, 1);
        Check.due("nothing at both", x.kinds(0), 1 | 2 | 16);
        Check.due("the kind stays", x.family(0, 0), 1);
        Check.due("it is sick still", x.family(0, 3), 1);
    }

    private static void kindsOfOneWithoutWall() {
        LeaningWalls x = Check.laid("f0,1,9;f1,0,9;f3,1,9;w0,1;");
        x.see(0, 51, 1);
        Check.due("so by every kind", x.kinds(2), 31);
        x.see(0, 50, 2);
        Check.due("so by none", x.kinds(2), 0);
    }

    private static void highestWall() {
        LeaningWalls x = Check.laid(SIX + "w0,1;w0,1;w0,1;w0,1;w2,3;w2,3;w2,3;w4,5;");
        x.see(7, 51, 1);
        Check.due("were 5 sick", x.whoSick(), 32);
        Check.due("kinds of 4", x.kinds(4), 8);
        Check.due("kinds of 5: a poet", x.kinds(5), 2);
        Check.due("wall 8", x.see(8, 51, 1), BAD);
    }
}
