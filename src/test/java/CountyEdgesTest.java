import java.util.Arrays;

/** The edges of promises 6, 7, 8 and 27: families, walls and trees such as there are, what each count tells. */
public final class CountyEdgesTest {
    private static final int BAD = Check.BAD, NONE = Check.NONE;
    private static final String FULL_COUNTY = "f4,12,99;f3,12,99;f2,12,99;f1,12,99;f0,12,99;f0,12,99;"
        + "w0,1;w1,2;w2,3;w3,4;w4,5;w5,0;w0,2;w0,3;t0,20;t0,20;t7,20;t7,21;t0,40;t7,0;";

    public static void main(String[] args) {
        suchAsThereAre();
        questionsOfAFamily();
        kindsHoursLand();
        landBeyondWhatIsTold();
        sickOfAll();
        wallsOfAFamily();
        treesAsBits();
        questionsOfAWall();
        placeByAFoot();
        placeBelowNone();
        towardWhom();
        towardWhomAlone();
        treesByAFoot();
        treesAtEachWall();
        farTrees();
        leastCounts();
        mostCounts();
        questionsOfCount();
        Check.end();
    }

    /** "FAMILIES, WALLS, TREES: such as there are" */
    private static void suchAsThereAre() {
        such(Check.laid("f0,1,9;"), 1, 0, 0);
        such(Check.laid("f0,1,9;f0,1,9;"), 2, 0, 0);
        such(Check.laid("f0,1,9;f0,1,9;w0,1;"), 2, 1, 0);
        such(Check.laid("f0,1,9;f0,1,9;w0,1;t0,20;"), 2, 1, 1);
        such(new LeaningWalls(), 5, 6, 3);
        such(Check.laid(FULL_COUNTY), 6, 8, 6);
    }

    private static void such(LeaningWalls x, int families, int walls, int trees) {
        for (int i = -2; i <= 10; i++) {
            boolean isFamily = i >= 0 && i < families;
            boolean isWall = i >= 0 && i < walls;
            boolean isTree = i >= 0 && i < trees;
            are("family " + i, isFamily, x.family(i, 0), x.behind(0, i, 0), x.kinds(i), x.idle(i, 0, 0, 0),
                x.enough(i, 1), x.sick(i));
            // these two may be NONE, which is not BAD
            are("family " + i, isFamily, x.best(i, 1, 0), x.all(i));
            int other = i == 0 ? families - 1 : 0;
            are("next to family " + i, isFamily && i != other, x.nextTo(i, other), x.nextTo(other, i));
            are("wall " + i, isWall, x.wall(i, 0), x.behind(0, i, 1), x.share(0, i, 0), x.see(i, 50, 1));
            are("tree " + i, isTree, x.tree(i), x.behind(0, i, 2));
            x.forget();
        }
    }

    private static void are(String what, boolean is, int... answers) {
        for (int answer : answers) {
            Check.due(what + " is one: " + Arrays.toString(answers), answer == BAD ? 0 : 1, is ? 1 : 0);
        }
    }

    /** "KIND (what = 0), .. TREES (5; bits)" */
    private static void questionsOfAFamily() {
        LeaningWalls x = new LeaningWalls();
        for (int what = -3; what <= 9; what++) {
            for (int f = 0; f < 5; f++) {
                boolean is = what >= 0 && what <= 5;
                Check.due("family " + f + ", " + what, x.family(f, what) == BAD ? 0 : 1, is ? 1 : 0);
            }
            Check.due("no family, " + what, x.family(5, what), BAD);
        }
    }

    /** The least and the most that are told of each. */
    private static void kindsHoursLand() {
        for (int kind = 0; kind <= 4; kind++) {
            LeaningWalls x = Check.laid("f" + kind + ",0,0;f" + kind + ",12,99;");
            int[][] want = {{kind, 0, 0, 0, 0, 0}, {kind, 12, 99, 0, 0, 0}};
            for (int f = 0; f < 2; f++) {
                for (int what = 0; what < 6; what++) {
                    Check.due("least and most, " + f + ", " + what, x.family(f, what), want[f][what]);
                }
            }
        }
    }

    /** LAND is 99 at most when it is told, and goes on behind it: 103 of 120 days are days of work. */
    private static void landBeyondWhatIsTold() {
        LeaningWalls x = Check.laid("f0,1,99;f1,1,99;w0,1;");
        for (int i = 0; i < 4; i++) {
            x.pass(30);
        }
        Check.due("all land there is", x.family(0, 2), 198);
        Check.due("no land at all", x.family(1, 2), 0);
        Check.due("behind, too", x.behind(60, 0, 0), 198);
        Check.due("land of all stays", x.count(5), 198);
        Check.due("the wall has gone as many feet", x.wall(0, 2), 50 + 99);
    }

    /** "1 if SICK (3)", 4 of count: from nobody to all six and back. */
    private static void sickOfAll() {
        LeaningWalls x = Check.laid(FULL_COUNTY);
        for (int f = 0; f < 6; f++) {
            Check.due("well", x.family(f, 3), 0);
            Check.due("sick then", x.sick(f), 1);
            Check.due("sick", x.family(f, 3), 1);
            Check.due("how many", x.count(4), f + 1);
        }
        for (int f = 5; f >= 0; f--) {
            Check.due("well then", x.sick(f), 0);
            Check.due("well again", x.family(f, 3), 0);
            Check.due("how many are left", x.count(4), f);
        }
    }

    /** "how many WALLS (4)": none to four, as A and as B. */
    private static void wallsOfAFamily() {
        String text = "f0,1,9;f0,1,9;f0,1,9;";
        String[] walls = {"w0,1;", "w2,0;", "w0,2;", "w1,0;"};
        int[][] want = {{0, 0, 0}, {1, 1, 0}, {2, 1, 1}, {3, 1, 2}, {4, 2, 2}};
        for (int many = 0; many <= 4; many++) {
            LeaningWalls x = Check.laid(text);
            for (int f = 0; f < 3; f++) {
                Check.due("walls of " + f + " of " + many, x.family(f, 4), want[many][f]);
            }
            text = many < 4 ? text + walls[many] : text;
        }
    }

    /** "TREES (5; bits)": none, one of each, all six. */
    private static void treesAsBits() {
        String two = "f0,1,9;f0,1,9;w0,1;";
        String trees = "t0,20;t0,20;t0,20;t0,20;t0,20;t0,20;";
        Check.due("no trees", Check.laid(two).family(0, 5), 0);
        LeaningWalls six = Check.laid(two + trees);
        Check.due("all trees", six.family(0, 5), 63);
        Check.due("none of them", six.family(1, 5), 0);
        for (int t = 0; t < 6; t++) {
            LeaningWalls x = Check.laid(two + trees.substring(0, 6 * t) + "t0,21;" + trees.substring(6 * t + 6));
            Check.due("all but " + t, x.family(0, 5), 63 - (1 << t));
            Check.due("just " + t, x.family(1, 5), 1 << t);
        }
    }

    /** "A (what = 0), .. toward whom (7 ..)" */
    private static void questionsOfAWall() {
        LeaningWalls x = new LeaningWalls();
        for (int what = -3; what <= 11; what++) {
            for (int w = 0; w < 6; w++) {
                boolean is = what >= 0 && what <= 7;
                Check.due("wall " + w + ", " + what, x.wall(w, what) == BAD ? 0 : 1, is ? 1 : 0);
            }
            Check.due("no wall, " + what, x.wall(6, what), BAD);
        }
    }

    /** "A WALL is at 0 at first; a foot toward B it is at 1 more, toward A at 1 less." */
    private static void placeByAFoot() {
        LeaningWalls toB = Check.laid("f0,1,9;f1,1,9;w0,1;");
        LeaningWalls toA = Check.laid("f0,1,9;f1,1,9;w1,0;");
        for (int day = 0; day <= 6; day++) {
            Check.due("toward B behind " + day, toB.wall(0, 2), 50 + day);
            Check.due("toward A behind " + day, toA.wall(0, 2), 50 - day);
            toB.pass(1);
            toA.pass(1);
        }
        Check.due("toward B, behind the day of rest", toB.wall(0, 2), 56);
        Check.due("toward A, behind the day of rest", toA.wall(0, 2), 44);
    }

    /** Where a wall is, and 50, may be less than 0 and be what BAD is; so it may with 100. */
    private static void placeBelowNone() {
        LeaningWalls x = Check.laid("f1,1,99;f0,1,0;w0,1;");
        x.pass(30);
        x.pass(27);
        // 57 days have eight days of rest
        Check.due("49 feet toward A", x.wall(0, 2), 1);
        x.pass(1);
        Check.due("50 feet", x.wall(0, 2), 0);
        x.pass(1);
        Check.due("51 feet", x.wall(0, 2), -1);
        Check.due("51 feet, and 100", x.behind(0, 0, 1), 49);
        x.pass(30);
        x.pass(30);
        Check.due("all 99 feet", x.wall(0, 2), -49);
        Check.due("all 99 feet, and 100", x.behind(60, 0, 1), 1);
    }

    /** "toward whom it would go .. (7: FAMILY; NONE)" */
    private static void towardWhom() {
        int[][] shares = {{3, 3, NONE}, {3, 2, 1}, {2, 3, 0}, {0, 0, NONE}, {1, 0, 1}, {0, 1, 0}, {12, 11, 1}};
        for (int[] s : shares) {
            LeaningWalls x = Check.laid("f0," + s[0] + ",1;f0," + s[1] + ",1;w0,1;");
            Check.due("toward whom, " + Arrays.toString(s), x.wall(0, 7), s[2]);
            LeaningWalls bare = Check.laid("f0," + s[0] + ",0;f0," + s[1] + ",0;w0,1;");
            Check.due("no land, " + Arrays.toString(s), bare.wall(0, 7), NONE);
            x.pass(6);
            Check.due("on the day of rest, " + Arrays.toString(s), x.wall(0, 7), NONE);
        }
    }

    /** "were it alone": land that goes or comes by a lower wall on that day is as it is now. */
    private static void towardWhomAlone() {
        LeaningWalls goes = Check.laid("f1,0,1;f0,1,0;f0,1,0;w0,1;w0,2;");
        Check.due("its last foot by the lower wall", goes.wall(0, 7), 0);
        Check.due("its last foot by the higher wall", goes.wall(1, 7), 0);
        goes.pass(1);
        Check.due("the lower wall has gone", goes.wall(0, 2), 49);
        Check.due("the higher wall has not", goes.wall(1, 2), 50);
        LeaningWalls comes = Check.laid("f1,0,1;f0,1,0;f3,0,0;w0,1;w1,2;");
        Check.due("no foot yet", comes.wall(1, 7), NONE);
        comes.pass(1);
        Check.due("it came and went", comes.wall(1, 2), 49);
    }

    /** "A TREE is A's, if its WALL is at T less 20 or more, else B's." */
    private static void treesByAFoot() {
        for (int feet = 0; feet <= 40; feet++) {
            LeaningWalls x = Check.laid("f0,1,9;f1,1,9;w0,1;t0," + feet + ";");
            LeaningWalls y = Check.laid("f0,1,9;f1,1,9;w1,0;t0," + feet + ";");
            for (int day = 0; day <= 6; day++) {
                Check.due("tree at " + feet + " of a wall at " + day, x.tree(0), day >= feet - 20 ? 0 : 1);
                Check.due("tree at " + feet + " of a wall at -" + day, y.tree(0), -day >= feet - 20 ? 1 : 0);
                Check.due("behind none", x.behind(0, 0, 2), x.tree(0));
                x.pass(1);
                y.pass(1);
            }
        }
    }

    /** A's and B's at each of the eight walls: a tree at 20 is A's at first, one at 21 is B's. */
    private static void treesAtEachWall() {
        int[][] ends = {{0, 1}, {1, 2}, {2, 3}, {3, 4}, {4, 5}, {5, 0}, {0, 2}, {1, 3}};
        StringBuilder text = new StringBuilder("f0,1,9;f0,1,9;f0,1,9;f0,1,9;f0,1,9;f0,1,9;");
        for (int[] end : ends) {
            text.append('w').append(end[0]).append(',').append(end[1]).append(';');
        }
        for (int w = 0; w < ends.length; w++) {
            LeaningWalls x = Check.laid(text + "t" + w + ",20;t" + w + ",21;");
            Check.due("A's at wall " + w, x.tree(0), ends[w][0]);
            Check.due("B's at wall " + w, x.tree(1), ends[w][1]);
            Check.due("A's bits", x.family(ends[w][0], 5), 1);
            Check.due("B's bits", x.family(ends[w][1], 5), 2);
            Check.due("A's behind none", x.behind(0, 0, 2), ends[w][0]);
        }
    }

    /** The trees that stand farthest: the wall is at 19 and 20 behind 22 and 23 days, three of which are of rest. */
    private static void farTrees() {
        LeaningWalls toB = Check.laid("f0,1,0;f1,0,40;w0,1;t0,40;t0,39;");
        toB.pass(22);
        Check.due("at 19, of B", toB.tree(0), 1);
        Check.due("at 19, T 39", toB.tree(1), 0);
        toB.pass(1);
        Check.due("at 20, of A", toB.tree(0), 0);
        LeaningWalls toA = Check.laid("f1,0,40;f0,1,0;w0,1;t0,0;t0,1;");
        toA.pass(23);
        Check.due("at -20, of A", toA.tree(0), 0);
        Check.due("at -20, T 1", toA.tree(1), 1);
        toA.pass(1);
        Check.due("at -21, of B", toA.tree(0), 1);
    }

    private static void counts(String name, LeaningWalls x, int... want) {
        for (int what = 0; what < want.length; what++) {
            Check.due(name + ", count " + what, x.count(what), want[what]);
        }
    }

    private static void leastCounts() {
        LeaningWalls x = Check.laid("f0,0,0;");
        x.wipe();
        counts("least", x, 1, 0, 0, 0, 0, 0, 0, 0, 0, 0);
    }

    private static void mostCounts() {
        LeaningWalls x = Check.laid(FULL_COUNTY);
        for (int i = 0; i < 10; i++) {
            x.pass(30);
            x.see(7, 99, 30);
            x.keep();
            x.sick(i);
        }
        for (int i = 0; i <= 200; i++) {
            x.write('~');
        }
        counts("most", x, 6, 8, 6, 300, 6, 594, 6, 8, 2, 200);
    }

    /** "How many: 0 FAMILIES, .. 9 letters of THE TEXT." */
    private static void questionsOfCount() {
        LeaningWalls x = new LeaningWalls();
        for (int what = -5; what <= 20; what++) {
            boolean is = what >= 0 && what <= 9;
            Check.due("count " + what, x.count(what) == BAD ? 0 : 1, is ? 1 : 0);
        }
    }
}
