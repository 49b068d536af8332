/** Promises 1 to 8 and 27: texts, faults, counties, families, walls, trees, counts. */
public final class CountiesTest {
    private static final int BAD = Check.BAD, NO = Check.NO, FULL = Check.FULL, NONE = Check.NONE;

    public static void main(String[] args) {
        newObject();
        letters();
        wiping();
        faults();
        faultsOfMeasure();
        laying();
        layingForgets();
        families();
        walls();
        trees();
        counts();
        Check.end();
    }

    /** Promise 1. */
    private static void newObject() {
        LeaningWalls x = new LeaningWalls();
        int[][] told = {{0, 5, 20}, {1, 8, 12}, {2, 4, 9}, {3, 3, 15}, {4, 6, 30}};
        for (int f = 0; f < told.length; f++) {
            for (int what = 0; what < 3; what++) {
                Check.due("new: family " + f + " " + what, x.family(f, what), told[f][what]);
            }
        }
        int[][] ends = {{0, 1}, {1, 2}, {2, 3}, {3, 0}, {0, 4}, {4, 2}};
        for (int w = 0; w < ends.length; w++) {
            Check.due("new: A of " + w, x.wall(w, 0), ends[w][0]);
            Check.due("new: B of " + w, x.wall(w, 1), ends[w][1]);
        }
        Check.due("new: letters", x.count(9), 0);
        Check.due("new: fault", x.fault(), NONE);
        Check.due("new: lay", x.lay(), NO);
        Check.due("new: undo", x.undo(), NO);
        Check.due("new: back", x.back(), NO);
        Check.due("new: forget", x.forget(), 0);
        Check.due("new: day", x.count(3), 0);
    }

    /** Promise 2. */
    private static void letters() {
        LeaningWalls x = new LeaningWalls();
        Check.due("write 31", x.write(31), BAD);
        Check.due("write 127", x.write(127), BAD);
        Check.due("write -1", x.write(-1), BAD);
        Check.due("write a far one", x.write(65536 + 'f'), BAD);
        Check.due("write 32", x.write(32), 1);
        Check.due("write 126", x.write(126), 2);
        Check.due("bad letters are not counted", x.count(9), 2);
        for (int i = 3; i <= 200; i++) {
            Check.due("write number " + i, x.write('f'), i);
        }
        Check.due("write the 201st", x.write('f'), FULL);
        Check.due("bad comes ahead of full", x.write(31), BAD);
        Check.due("full changes nothing", x.count(9), 200);
    }

    /** Promise 3. */
    private static void wiping() {
        LeaningWalls x = new LeaningWalls();
        Check.due("wipe nothing", x.wipe(), 0);
        Check.write(x, "f0,x");
        Check.due("wipe four", x.wipe(), 4);
        Check.due("wipe again", x.wipe(), 0);
        Check.due("no fault behind a wipe", x.fault(), NONE);
        Check.due("write behind a wipe", x.write('f'), 1);
        Check.due("the county stays", x.count(0), 5);
    }

    /** Promise 4: form. */
    private static void faults() {
        fault("", NONE);
        fault("f0,5,20;", NONE);
        fault("f00,05,09;", NONE);
        fault("f0,5,20", 0);
        fault("f0,5,20;f", 8);
        fault("f0,5,20;f0", 8);
        fault("f0,5,20;f0,", 8);
        fault("f0,5,20;f0,1,2;;", 15);
        fault(" f0,5,20;", 0);
        fault("f0,5,20; f0,5,20;", 8);
        fault("f 0,5,20;", 0);
        fault("f0,5;", 0);
        fault("f0,5,20,1;", 0);
        fault("f0,5,020;", 0);
        fault("f000,5,20;", 0);
        fault("f,5,20;", 0);
        fault("f0,,20;", 0);
        fault("f0,5,;", 0);
        fault("f-1,5,20;", 0);
        fault("F0,5,20;", 0);
        fault("x0,5,20;", 0);
        fault("0,5,20;", 0);
        fault("f0.5.20;", 0);
        fault("f0,5,20:", 0);
        fault("f0,5,2/;", 0);
        fault("f0,5,20;f0,5,20;w0,1;t0,20;", NONE);
        fault("f0,5,20;f0,5,20;w0;", 16);
        fault("f0,5,20;f0,5,20;w0,1,1;", 16);
        fault("f0,5,20;f0,5,20;w0,1;t0;", 21);
        fault("f0,5,20;f0,5,20;w0,1;t0,20,2;", 21);
        fault("f0,5,20;x;f9,9,9;", 8);
        fault("f0,5,20;~", 8);
    }

    /** Promise 4: what numbers may be, and how many there may be. */
    private static void faultsOfMeasure() {
        fault("f4,12,99;", NONE);
        fault("f5,5,20;", 0);
        fault("f0,13,20;", 0);
        String two = "f0,5,20;f1,5,20;";
        fault(two + "w0,0;", 16);
        fault(two + "w0,2;", 16);
        fault(two + "w2,0;", 16);
        fault("f0,5,20;w0,1;f1,5,20;", 8);
        fault(two + "t0,20;w0,1;", 16);
        fault(two + "w1,0;t1,20;", 21);
        fault(two + "w1,0;t0,0;t0,40;", NONE);
        fault(two + "w1,0;t0,41;", 21);
        fault(two + "w0,1;w1,0;w0,1;w0,1;", NONE);
        fault(two + "w0,1;w1,0;w0,1;w0,1;w0,1;", 36);
        String three = two + "f2,5,20;";
        fault(three + "w0,1;w0,1;w2,0;w0,2;w0,1;", 44);
        fault(three + "w0,1;w0,1;w2,0;w2,0;w0,2;", 44);
        fault(three + "w0,1;w0,1;w2,0;w2,0;w1,2;w2,1;", NONE);
        String six = three + "f3,5,20;f4,5,20;f0,5,20;";
        fault(six, NONE);
        fault(six + "f0,5,20;", 48);
        String eight = six + "w0,1;w1,2;w2,3;w3,4;w4,5;w5,0;w0,2;w1,3;";
        fault(eight, NONE);
        fault(eight + "w2,4;", 88);
        String trees = eight + "t7,1;t7,1;t6,2;t5,3;t4,4;t3,5;";
        fault(trees, NONE);
        fault(trees + "t2,6;", trees.length());
        fault(trees + "t8,6;", trees.length());
    }

    private static void fault(String text, int want) {
        Check.due("fault of " + text, Check.written(text).fault(), want);
    }

    /** Promise 5. */
    private static void laying() {
        LeaningWalls x = Check.written("f0,5,20;f1,8,12;w1,0;t0,19;");
        Check.due("lay two", x.lay(), 2);
        Check.due("the text stays", x.count(9), 27);
        Check.due("lay again", x.lay(), 2);
        Check.due("A", x.wall(0, 0), 1);
        Check.due("B", x.wall(0, 1), 0);
        x.pass(3);
        x.write('?');
        Check.due("lay a fault", x.lay(), NO);
        Check.due("a fault changes nothing", x.count(3), 3);
        Check.due("a fault keeps what can be undone", x.count(7), 1);
        x.wipe();
        Check.due("lay nothing", x.lay(), NO);
        Check.due("the county stays", x.count(0), 2);
        LeaningWalls one = Check.written("f3,1,0;");
        Check.due("lay one", one.lay(), 1);
        Check.due("no walls are left of before", one.count(1), 0);
        Check.due("no trees are left of before", one.count(2), 0);
        shares("seven among three", "f0,7,9;f0,1,9;w0,1;w1,0;w0,1;", 0, new int[] {3, 2, 2});
        shares("eight among three", "f0,8,9;f0,1,9;w0,1;w1,0;w0,1;", 0, new int[] {3, 3, 2});
        shares("one among three", "f0,7,9;f0,1,9;w0,1;w1,0;w0,1;", 1, new int[] {1, 0, 0});
        shares("none among three", "f0,0,9;f0,1,9;w0,1;w1,0;w0,1;", 0, new int[] {0, 0, 0});
    }

    private static void shares(String name, String text, int f, int[] want) {
        LeaningWalls x = Check.laid(text);
        for (int w = 0; w < want.length; w++) {
            Check.due(name + ", wall " + w, x.wall(w, x.wall(w, 0) == f ? 3 : 4), want[w]);
        }
    }

    /** Promise 5: what laying makes as it was at first. */
    private static void layingForgets() {
        LeaningWalls x = Check.laid("f0,4,20;f0,2,12;w1,0;t0,19;");
        x.sick(1);
        x.share(0, 0, 1);
        x.pass(9);
        x.see(0, 50, 1);
        x.keep();
        x.lay();
        int[] want = {2, 1, 1, 0, 0, 32, 0, 0, 0, 27};
        for (int what = 0; what < want.length; what++) {
            Check.due("laid anew, count " + what, x.count(what), want[what]);
        }
        Check.due("laid anew, share", x.wall(0, 4), 4);
        Check.due("laid anew, place", x.wall(0, 2), 50);
        Check.due("laid anew, land", x.family(0, 2), 20);
        Check.due("laid anew, undo", x.undo(), NO);
        Check.due("laid anew, back", x.back(), NO);
    }

    /** Promise 6. */
    private static void families() {
        LeaningWalls x = Check.laid("f2,7,13;f4,12,99;f0,0,0;w0,1;w1,0;t0,20;t1,21;t0,21;t1,20;");
        int[][] want = {{2, 7, 13, 0, 2, 1 | 2}, {4, 12, 99, 0, 2, 4 | 8}, {0, 0, 0, 0, 0, 0}};
        for (int f = 0; f < want.length; f++) {
            for (int what = 0; what < 6; what++) {
                Check.due("family " + f + ", " + what, x.family(f, what), want[f][what]);
            }
        }
        Check.due("family -1", x.family(-1, 0), BAD);
        Check.due("family 3 of 3", x.family(3, 0), BAD);
        Check.due("what -1", x.family(0, -1), BAD);
        Check.due("what 6", x.family(0, 6), BAD);
        x.sick(2);
        Check.due("sick", x.family(2, 3), 1);
        Check.due("not sick", x.family(0, 3), 0);
        x.share(0, 0, 0);
        Check.due("hours are those told", x.family(0, 1), 7);
    }

    /** Promise 7, the kinds' doings with it. */
    private static void walls() {
        does("plain", "f0,7,5;f0,1,9;w0,1;w1,0;", new int[] {4, 0});
        does("poet", "f1,7,5;f0,1,9;w0,1;w1,0;", new int[] {0, 0});
        does("moaner", "f2,7,5;f0,1,9;w0,1;w1,0;", new int[] {4, 8});
        does("dog", "f3,7,5;f0,1,9;w0,1;w1,0;", new int[] {5, 1});
        does("hirer", "f4,7,50;f0,1,9;w0,1;w1,0;", new int[] {4, 0});
        does("hirer of few hours", "f4,1,10;f0,1,9;w0,1;w1,0;", new int[] {2, 0});
        does("hirer of few hours and little land", "f4,1,9;f0,1,9;w0,1;w1,0;", new int[] {1, 0});
        LeaningWalls x = Check.laid("f0,8,10;f3,2,1;f1,0,0;w0,1;w1,2;w2,0;");
        Check.due("toward B", x.wall(0, 7), 1);
        Check.due("toward nobody, as there is no land", x.wall(1, 7), NONE);
        Check.due("no land at A either", x.wall(2, 7), NONE);
        x.share(0, 0, 2);
        Check.due("alike", x.wall(0, 7), NONE);
        x.share(0, 0, 1);
        Check.due("toward A", x.wall(0, 7), 0);
        x.pass(6);
        for (int what = 5; what < 7; what++) {
            Check.due("the day of rest", x.wall(0, what), 0);
        }
        Check.due("nowhere on the day of rest", x.wall(0, 7), NONE);
        Check.due("shares on the day of rest", x.wall(0, 3), 1);
        Check.due("wall -1", x.wall(-1, 0), BAD);
        Check.due("wall 3 of 3", x.wall(3, 0), BAD);
        Check.due("what -1", x.wall(0, -1), BAD);
        Check.due("what 8", x.wall(0, 8), BAD);
    }

    private static void does(String name, String text, int[] wellAndSick) {
        LeaningWalls x = Check.laid(text);
        Check.due(name + ", as A", x.wall(0, 5), wellAndSick[0]);
        x.sick(0);
        Check.due(name + ", sick", x.wall(0, 5), wellAndSick[1]);
        LeaningWalls y = Check.laid(text.replace("w0,1;w1,0;", "w1,0;w0,1;"));
        Check.due(name + ", as B", y.wall(0, 6), wellAndSick[0]);
    }

    /** Promise 8. */
    private static void trees() {
        LeaningWalls x = Check.laid("f0,4,10;f0,2,10;w0,1;w1,0;t0,20;t0,21;t0,23;t1,20;t1,19;t1,0;");
        int[] first = {0, 1, 1, 1, 1, 1};
        int[] third = {0, 0, 0, 0, 0, 1};
        for (int t = 0; t < 6; t++) {
            Check.due("tree " + t + " at first", x.tree(t), first[t]);
        }
        x.pass(3);
        for (int t = 0; t < 6; t++) {
            Check.due("tree " + t + " behind three days", x.tree(t), third[t]);
        }
        Check.due("trees of 0", x.family(0, 5), 31);
        Check.due("tree -1", x.tree(-1), BAD);
        Check.due("tree 6", x.tree(6), BAD);
        Check.due("no trees", Check.laid("f0,1,1;").tree(0), BAD);
    }

    /** Promise 27. */
    private static void counts() {
        LeaningWalls x = Check.laid("f0,4,10;f0,2,11;f1,1,3;w0,1;t0,20;t0,3;");
        x.pass(2);
        x.sick(0);
        x.sick(2);
        x.see(0, 50, 1);
        x.keep();
        x.keep();
        int[] want = {3, 1, 2, 2, 2, 24, 1, 3, 2, 39};
        for (int what = 0; what < want.length; what++) {
            Check.due("count " + what, x.count(what), want[what]);
        }
        Check.due("count -1", x.count(-1), BAD);
        Check.due("count 10", x.count(10), BAD);
    }
}
