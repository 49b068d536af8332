/** Promises 9 to 12: days, sharing, sickness, what is undone. */
public final class DaysTest {
    private static final int BAD = Check.BAD, NO = Check.NO;

    public static void main(String[] args) {
        passing();
        landByThen();
        hirersByMorning();
        landGoesRound();
        sharing();
        sickness();
        undoing();
        Check.end();
    }

    /** Promise 9. */
    private static void passing() {
        LeaningWalls x = Check.laid("f0,4,10;f0,2,10;w0,1;");
        Check.due("pass 0", x.pass(0), BAD);
        Check.due("pass 31", x.pass(31), BAD);
        Check.due("pass -1", x.pass(-1), BAD);
        Check.due("no day has gone", x.count(3), 0);
        Check.due("pass 6", x.pass(6), 6);
        stand(x, 56, 16, 4);
        Check.due("pass the day of rest", x.pass(1), 7);
        stand(x, 56, 16, 4);
        Check.due("pass 4", x.pass(4), 11);
        stand(x, 60, 20, 0);
        Check.due("pass 30", x.pass(30), 41);
        stand(x, 60, 20, 0);
        LeaningWalls y = Check.laid("f1,4,10;f0,2,10;w0,1;");
        y.pass(2);
        stand(y, 48, 8, 12);
        y.pass(30);
        stand(y, 40, 0, 20);
        LeaningWalls rests = Check.laid("f3,0,40;f1,0,40;w0,1;");
        rests.pass(30);
        stand(rests, 76, 66, 14);
    }

    private static void stand(LeaningWalls x, int place, int first, int second) {
        Check.due("where the wall is", x.wall(0, 2), place);
        Check.due("land of 0", x.family(0, 2), first);
        Check.due("land of 1", x.family(1, 2), second);
    }

    /** A foot that comes by a lower wall can go by a higher one, not the other way round. */
    private static void landByThen() {
        LeaningWalls x = Check.laid("f1,0,1;f1,0,0;f3,9,0;w0,1;w1,2;w2,0;");
        x.pass(1);
        Check.due("1 has no land at its wall", x.wall(1, 2), 50);
        Check.due("0 loses by wall 2", x.wall(2, 2), 51);
        Check.due("land of 2", x.family(2, 2), 1);
        LeaningWalls y = Check.laid("f1,0,1;f0,1,0;f3,9,0;w0,1;w1,2;");
        y.pass(1);
        Check.due("a foot comes to 1", y.wall(0, 2), 49);
        Check.due("and goes on to 2", y.wall(1, 2), 49);
        Check.due("1 has none", y.family(1, 2), 0);
        Check.due("2 has it", y.family(2, 2), 1);
        LeaningWalls z = Check.laid("f1,0,1;f0,1,0;f3,9,0;w1,2;w0,1;");
        z.share(1, 0, 0);
        z.share(1, 1, 1);
        z.pass(1);
        Check.due("1 had none at the lower wall", z.wall(0, 2), 50);
        Check.due("1 has it", z.family(1, 2), 1);
    }

    /** A hirer who falls below ten feet by a lower wall has still hired for that day. */
    private static void hirersByMorning() {
        LeaningWalls x = Check.laid("f4,0,10;f0,9,5;f0,2,5;w0,1;w0,2;");
        x.share(1, 0, 3);
        x.share(2, 1, 1);
        x.pass(1);
        Check.due("wall 0 goes toward 0", x.wall(0, 2), 49);
        Check.due("wall 1 goes toward 2", x.wall(1, 2), 51);
        Check.due("land is ten again", x.family(0, 2), 10);
        LeaningWalls y = Check.laid("f4,0,10;f0,9,5;f0,2,5;w0,1;w0,2;");
        y.pass(1);
        Check.due("nine feet", y.family(0, 2), 9);
        Check.due("no more hired", y.wall(0, 5), 0);
    }

    /** Land that goes round lets walls go far beyond all land. */
    private static void landGoesRound() {
        LeaningWalls x = Check.laid("f0,4,1;f0,4,0;w0,1;w0,1;");
        x.share(0, 0, 4 - 4);
        x.share(0, 1, 4);
        x.share(1, 1, 0);
        x.share(1, 0, 4);
        for (int i = 0; i < 10; i++) {
            x.pass(28);
        }
        Check.due("far toward A", x.wall(0, 2), 50 - 240);
        Check.due("far toward B", x.wall(1, 2), 50 + 240);
        Check.due("behind, far", x.behind(0, 0, 1), 100 - 240);
        Check.due("all land", x.count(5), 1);
    }

    /** Promise 10. */
    private static void sharing() {
        LeaningWalls x = Check.laid("f0,7,20;f0,12,20;f0,3,9;w0,1;w2,0;w1,2;");
        Check.due("family 3", x.share(3, 0, 1), BAD);
        Check.due("family -1", x.share(-1, 0, 1), BAD);
        Check.due("wall 3", x.share(0, 3, 1), BAD);
        Check.due("wall -1", x.share(0, -1, 1), BAD);
        Check.due("hours 13", x.share(0, 0, 13), BAD);
        Check.due("hours -1", x.share(0, 0, -1), BAD);
        Check.due("another's wall", x.share(0, 2, 1), NO);
        Check.due("another's wall and bad hours", x.share(0, 2, 13), BAD);
        Check.due("a fault is nothing to undo", x.count(7), 0);
        Check.due("shares are 4 and 3; 5 are too many", x.share(0, 0, 5), NO);
        Check.due("as many as there were", x.share(0, 0, 4), 0);
        Check.due("fewer", x.share(0, 0, 1), 3);
        Check.due("the rest as B", x.share(0, 1, 6), 0);
        Check.due("one too many", x.share(0, 1, 7), NO);
        Check.due("share of A", x.wall(0, 3), 1);
        Check.due("share of B", x.wall(1, 4), 6);
        Check.due("share of the other one stays", x.wall(0, 4), 6);
        x.share(1, 0, 0);
        Check.due("all twelve at one", x.share(1, 2, 12), 0);
        Check.due("all that can be undone", x.count(7), 5);
    }

    /** Promise 11. */
    private static void sickness() {
        LeaningWalls x = Check.laid("f0,4,10;f0,2,10;w0,1;");
        Check.due("sick -1", x.sick(-1), BAD);
        Check.due("sick 2", x.sick(2), BAD);
        Check.due("sick 0", x.sick(0), 1);
        Check.due("sick 1", x.sick(1), 1);
        Check.due("well 0", x.sick(0), 0);
        Check.due("0 is well", x.family(0, 3), 0);
        Check.due("1 is sick", x.family(1, 3), 1);
        Check.due("undoable", x.count(7), 3);
        x.sick(0);
        x.sick(1);
        x.pass(2);
        Check.due("the wall goes toward the sick one", x.wall(0, 2), 48);
    }

    /** Promise 12. */
    private static void undoing() {
        LeaningWalls x = Check.laid("f0,4,10;f0,2,10;w0,1;");
        Check.due("nothing to undo", x.undo(), NO);
        x.pass(5);
        x.share(0, 0, 1);
        x.sick(1);
        Check.due("undo sickness", x.undo(), 2);
        Check.due("1 is well", x.family(1, 3), 0);
        Check.due("share is told anew", x.wall(0, 3), 1);
        Check.due("undo sharing", x.undo(), 1);
        Check.due("share as it was", x.wall(0, 3), 4);
        Check.due("undo five days", x.undo(), 0);
        stand(x, 50, 10, 10);
        Check.due("day 0", x.count(3), 0);
        Check.due("nothing more", x.undo(), NO);
        for (int i = 1; i <= 11; i++) {
            x.pass(1);
            Check.due("eight at most, " + i, x.count(7), Math.min(i, 8));
        }
        for (int i = 7; i >= 0; i--) {
            Check.due("undo one of eight", x.undo(), i);
            Check.due("the day then", x.count(3), 3 + i);
        }
        Check.due("the ninth can't be", x.undo(), NO);
        stand(x, 53, 13, 7);
        x.see(0, 50, 1);
        x.keep();
        x.pass(1);
        x.undo();
        Check.due("what is seen is not undone", x.count(6), 1);
        Check.due("what is kept is not undone", x.count(8), 1);
    }
}
