import java.util.Arrays;

/** The edges of head 2 and of promises 9 to 12: days, what each does, shares, sickness, what is undone. */
public final class DayEdgesTest {
    private static final int BAD = Check.BAD, NO = Check.NO, NONE = Check.NONE;
    private static final String RACE = "f0,4,10;f0,2,10;w0,1;";
    private static final int PLAIN = 0, POET = 1, MOANER = 2, DOG = 3, HIRER = 4;

    public static void main(String[] args) {
        dayNought();
        sharedEvenly();
        plainOnes();
        poets();
        moaners();
        dogs();
        hirers();
        hirersOfNineFeet();
        daysOfRest();
        didLess();
        lastFoot();
        lowestWallFirst();
        daysAtOneTime();
        sharesUpToHours();
        sharesLeftOver();
        notItsWall();
        sickTwice();
        nothingToUndo();
        eightUndone();
        daysUndoneAtOnce();
        undoneAnew();
        lastOfSeveral();
        calls512();
        Check.end();
    }

    /** "Day 0 is the first one": it is no day of rest, and behind it one has gone by. */
    private static void dayNought() {
        LeaningWalls x = Check.laid(RACE);
        Check.due("no day has gone by", x.count(3), 0);
        Check.due("work on day 0", x.wall(0, 5), 4);
        Check.due("the first day", x.pass(1), 1);
        Check.due("a foot", x.wall(0, 2), 51);
    }

    /** "evenly (each has as many, cut; the lowest ones 1 more each, as long as some are left)" */
    private static void sharedEvenly() {
        int[][] want = {{0, 0, 0, 0}, {1, 0, 0, 0}, {1, 1, 0, 0}, {1, 1, 1, 0}, {1, 1, 1, 1}, {2, 1, 1, 1},
            {2, 2, 1, 1}, {2, 2, 2, 1}, {2, 2, 2, 2}, {3, 2, 2, 2}, {3, 3, 2, 2}, {3, 3, 3, 2}, {3, 3, 3, 3}};
        for (int hours = 0; hours <= 12; hours++) {
            shared(hours, "w0,1;w2,0;w0,2;w1,0;", want[hours]);
            shared(hours, "w1,0;", hours);
            shared(hours, "w0,1;w2,0;", (hours + 1) / 2, hours / 2);
        }
        shared(12, "w0,1;w0,2;w0,1;", 4, 4, 4);
        shared(11, "w0,1;w0,2;w0,1;", 4, 4, 3);
        shared(10, "w0,1;w0,2;w0,1;", 4, 3, 3);
        // walls between others don't count
        shared(3, "w1,2;w0,1;w2,1;w2,0;", -1, 2, -1, 1);
        LeaningWalls none = Check.laid("f0,12,9;f0,1,9;f0,1,9;w1,2;");
        Check.due("no wall to share at", none.best(0, 1, 0), NONE);
    }

    private static void shared(int hours, String walls, int... want) {
        LeaningWalls x = Check.laid("f0," + hours + ",9;f1,0,9;f1,0,9;" + walls);
        for (int w = 0; w < want.length; w++) {
            int got = x.wall(w, 0) == 0 ? x.wall(w, 3) : x.wall(w, 1) == 0 ? x.wall(w, 4) : -1;
            Check.due(hours + " hours, wall " + w + " of " + walls, got, want[w]);
        }
    }

    /** What one of a kind does by its share, as A and as B, well and sick. */
    private static void does(int kind, int land, int share, int well, int sick) {
        String name = "kind " + kind + " of " + land + " feet, " + share + " hours";
        LeaningWalls a = Check.laid("f" + kind + "," + share + "," + land + ";f0,1,9;w0,1;");
        LeaningWalls b = Check.laid("f0,1,9;f" + kind + "," + share + "," + land + ";w0,1;");
        Check.due(name + ", as A", a.wall(0, 5), well);
        Check.due(name + ", as B", b.wall(0, 6), well);
        a.sick(0);
        b.sick(1);
        Check.due(name + ", as A, sick", a.wall(0, 5), sick);
        Check.due(name + ", as B, sick", b.wall(0, 6), sick);
        Check.due(name + ", the share stays", a.wall(0, 3), share);
        a.sick(0);
        Check.due(name + ", well again", a.wall(0, 5), well);
    }

    /** "a PLAIN one its SHARE there", "a PLAIN one .. that is SICK nothing" */
    private static void plainOnes() {
        for (int share = 0; share <= 12; share++) {
            does(PLAIN, 9, share, share, 0);
            does(PLAIN, 0, share, share, 0);
        }
    }

    /** "a POET nothing" */
    private static void poets() {
        for (int share = 0; share <= 12; share++) {
            does(POET, 99, share, 0, 0);
        }
    }

    /** "a MOANER its SHARE (twice that when SICK)" */
    private static void moaners() {
        for (int share = 0; share <= 12; share++) {
            does(MOANER, 9, share, share, 2 * share);
        }
    }

    /** "one with a DOG its SHARE and 1", "one with a DOG 1" */
    private static void dogs() {
        for (int share = 0; share <= 12; share++) {
            does(DOG, 9, share, share + 1, 1);
        }
    }

    /** "a HIRER its SHARE, but 2 at least, if it has 10 feet of LAND or more ahead of the day" */
    private static void hirers() {
        int[] lands = {0, 1, 9, 10, 11, 99};
        for (int land : lands) {
            for (int share = 0; share <= 12; share++) {
                does(HIRER, land, share, land >= 10 && share < 2 ? 2 : share, 0);
            }
        }
    }

    /** "ahead of the day": ten feet in the morning are enough for the day, ten that come on it are for the next. */
    private static void hirersOfNineFeet() {
        LeaningWalls x = Check.laid("f4,0,9;f0,1,5;w0,1;");
        Check.due("nine feet", x.wall(0, 5), 0);
        x.pass(1);
        Check.due("it loses a foot", x.family(0, 2), 8);
        LeaningWalls y = Check.laid("f4,0,10;f0,1,5;w0,1;");
        y.pass(1);
        Check.due("ten feet win one", y.family(0, 2), 11);
        // wall 0 brings the tenth foot, at wall 1 nothing is done all the same; the next day it is
        LeaningWalls z = Check.laid("f4,1,9;f1,0,5;f0,0,5;w0,1;w0,2;");
        z.pass(1);
        Check.due("a foot by wall 0", z.family(0, 2), 10);
        Check.due("none by wall 1", z.wall(1, 2), 50);
        Check.due("hired for wall 1", z.wall(1, 5), 2);
        z.pass(1);
        Check.due("a foot by each", z.family(0, 2), 12);
    }

    /** "On days that are 6 modulo 7 nobody does anything." */
    private static void daysOfRest() {
        String text = "f3,1,60;f4,1,60;f2,3,60;f0,4,60;w0,1;w2,3;";
        LeaningWalls x = Check.laid(text);
        LeaningWalls y = Check.laid(text);
        y.sick(2);
        y.sick(0);
        for (int day = 0; day < 60; day++) {
            boolean rest = day == 6 || day == 13 || day == 20 || day == 27 || day == 34 || day == 41 || day == 48
                || day == 55;
            int[] before = {x.wall(0, 2), y.wall(0, 2)};
            Check.due("the dog on day " + day, x.wall(0, 5), rest ? 0 : 2);
            Check.due("the hirer on day " + day, x.wall(0, 6), rest ? 0 : 2);
            Check.due("the sick dog on day " + day, y.wall(0, 5), rest ? 0 : 1);
            Check.due("the sick moaner on day " + day, y.wall(1, 5), rest ? 0 : 6);
            Check.due("the plain one on day " + day, y.wall(1, 6), rest ? 0 : 4);
            Check.due("toward whom on day " + day, y.wall(1, 7), rest ? NONE : 3);
            x.pass(1);
            y.pass(1);
            Check.due("alike behind day " + day, x.wall(0, 2), before[0]);
            Check.due("a foot behind day " + day, y.wall(0, 2), rest ? before[1] : before[1] - 1);
        }
        Check.due("sixty days", x.count(3), 60);
    }

    /** "goes a foot toward that one of both that DID less there": by an hour, by many, not if both did as much. */
    private static void didLess() {
        for (int a = 0; a <= 12; a++) {
            for (int b = 0; b <= 12; b++) {
                LeaningWalls x = Check.laid("f0," + a + ",5;f0," + b + ",5;w0,1;");
                x.pass(1);
                int feet = Integer.compare(a, b);
                Check.due(a + " against " + b + ", the wall", x.wall(0, 2), 50 + feet);
                Check.due(a + " against " + b + ", A", x.family(0, 2), 5 + feet);
                Check.due(a + " against " + b + ", B", x.family(1, 2), 5 - feet);
            }
        }
    }

    /** "if that has LAND by then: a foot of it is the other one's" */
    private static void lastFoot() {
        LeaningWalls x = Check.laid("f0,1,0;f1,0,1;w0,1;");
        x.pass(1);
        Check.due("the last foot", x.family(0, 2), 1);
        Check.due("no land", x.family(1, 2), 0);
        Check.due("the wall went", x.wall(0, 2), 51);
        x.pass(30);
        Check.due("no foot more", x.family(0, 2), 1);
        Check.due("the wall stays", x.wall(0, 2), 51);
        LeaningWalls bare = Check.laid("f0,1,0;f1,0,0;w0,1;");
        bare.pass(30);
        Check.due("a wall without land", bare.wall(0, 2), 50);
    }

    /** "each WALL, 0 first": the last foot goes by the lowest wall. */
    private static void lowestWallFirst() {
        LeaningWalls x = Check.laid("f0,1,0;f1,0,1;f0,1,0;w0,1;w2,1;");
        x.pass(1);
        Check.due("by wall 0", x.family(0, 2), 1);
        Check.due("not by wall 1", x.family(2, 2), 0);
        LeaningWalls y = Check.laid("f0,1,0;f1,0,1;f0,1,0;w2,1;w0,1;");
        y.pass(1);
        Check.due("now not by wall 1", y.family(0, 2), 0);
        Check.due("now by wall 0", y.family(2, 2), 1);
        LeaningWalls two = Check.laid("f0,1,0;f1,0,2;f0,1,0;w2,1;w0,1;");
        two.pass(1);
        Check.due("two feet are enough for both", two.family(0, 2) + two.family(2, 2), 2);
        throughEightWalls();
    }

    /** A foot goes on by all eight walls on one day, if each lies higher and toward the next one. */
    private static void throughEightWalls() {
        int[] path = {0, 1, 2, 3, 4, 5, 0, 2, 4};
        LeaningWalls x = Check.laid("f3,2,1;f3,2,0;f3,2,0;f3,2,0;f3,2,0;f3,2,0;"
            + "w0,1;w1,2;w2,3;w3,4;w4,5;w5,0;w0,2;w2,4;");
        for (int w = 0; w < 8; w++) {
            x.share(path[w], w, 0);
            x.share(path[w + 1], w, 0);
        }
        for (int w = 0; w < 8; w++) {
            x.share(path[w + 1], w, 1);
        }
        x.pass(1);
        for (int w = 0; w < 8; w++) {
            Check.due("through wall " + w, x.wall(w, 2), 49);
        }
        Check.due("at its end", x.family(4, 2), 1);
        Check.due("all land", x.count(5), 1);
    }

    /** "n DAYS (1 to 30) go by: how many have gone by in all" */
    private static void daysAtOneTime() {
        for (int n = -1; n <= 32; n++) {
            LeaningWalls x = Check.laid(RACE);
            LeaningWalls y = Check.laid(RACE);
            boolean is = n >= 1 && n <= 30;
            Check.due("pass " + n, x.pass(n), is ? n : BAD);
            Check.due("days behind " + n, x.count(3), is ? n : 0);
            for (int i = 0; i < n && is; i++) {
                Check.due("day by day", y.pass(1), i + 1);
            }
            Check.due("as day by day, the wall", x.wall(0, 2), y.wall(0, 2));
            Check.due("as day by day, the land", x.family(1, 2), y.family(1, 2));
        }
        LeaningWalls x = Check.laid(RACE);
        for (int i = 1; i <= 5; i++) {
            Check.due("thirty more", x.pass(30), 30 * i);
        }
    }

    /** "all its SHARES are no more than its HOURS", "h (0 to 12)", "it has not so many" */
    private static void sharesUpToHours() {
        for (int hours = 0; hours <= 12; hours++) {
            for (int h = -1; h <= 13; h++) {
                LeaningWalls x = Check.laid("f0," + hours + ",9;f0,1,9;w0,1;");
                int due = h < 0 || h > 12 ? BAD : h > hours ? NO : hours - h;
                Check.due(h + " of " + hours, x.share(0, 0, h), due);
                Check.due("share behind it", x.wall(0, 3), due < 0 ? hours : h);
                Check.due("undoable behind it", x.count(7), due < 0 ? 0 : 1);
            }
        }
        LeaningWalls two = Check.laid("f0,5,9;f0,1,9;w0,1;w1,0;");
        // 3 and 2
        Check.due("4 and 2 are 6", two.share(0, 0, 4), NO);
        Check.due("3 and 3 are 6", two.share(0, 1, 3), NO);
        Check.due("3 and 2 are 5", two.share(0, 0, 3), 0);
        Check.due("3 and 0", two.share(0, 1, 0), 2);
        Check.due("5 and 0", two.share(0, 0, 5), 0);
        Check.due("5 and 1 are 6", two.share(0, 1, 1), NO);
        Check.due("6 and 0 are 6", two.share(0, 0, 6), NO);
        Check.due("share as A", two.wall(0, 3), 5);
        Check.due("share as B", two.wall(1, 4), 0);
        Check.due("hours are not those shared", two.family(0, 1), 5);
    }

    /** "how many are left over": of all walls of it, none to all. */
    private static void sharesLeftOver() {
        LeaningWalls x = Check.laid("f3,12,9;f0,1,9;f0,1,9;w0,1;w2,0;w0,2;w1,0;");
        for (int w = 0; w < 4; w++) {
            Check.due("none at wall " + w, x.share(0, w, 0), 3 * (w + 1));
        }
        Check.due("all at one", x.share(0, 3, 12), 0);
        Check.due("none at any other", x.share(0, 0, 1), NO);
        Check.due("none is as many as before", x.share(0, 0, 0), 0);
        LeaningWalls poet = Check.laid("f1,7,9;f0,1,9;w0,1;");
        Check.due("a poet shares all the same", poet.share(0, 0, 2), 5);
        poet.sick(0);
        Check.due("so does a sick one", poet.share(0, 0, 7), 0);
    }

    /** "NO: it is not its WALL": behind all that is BAD. */
    private static void notItsWall() {
        LeaningWalls x = Check.laid("f0,4,9;f0,4,9;f0,4,9;w0,1;w1,2;");
        Check.due("not its wall", x.share(0, 1, 0), NO);
        Check.due("not its wall and too many", x.share(0, 1, 5), NO);
        Check.due("not its wall and hours too many to be told", x.share(0, 1, 13), BAD);
        Check.due("no wall", x.share(0, 2, 0), BAD);
        Check.due("no family", x.share(3, 1, 0), BAD);
        Check.due("without any wall", Check.laid("f0,4,9;f0,4,9;f0,4,9;w0,1;").share(2, 0, 0), NO);
        Check.due("nothing to undo", x.count(7), 0);
    }

    /** "A FAMILY is SICK, or well: 1 if SICK then, 0." */
    private static void sickTwice() {
        LeaningWalls x = new LeaningWalls();
        for (int i = 0; i < 10; i++) {
            Check.due("sick, time " + i, x.sick(4), 1 - i % 2);
            Check.due("others are well", x.count(4), 1 - i % 2);
        }
    }

    /** "NO": at first, behind lay and behind back. */
    private static void nothingToUndo() {
        Stands.unchanged("undo at first", LeaningWalls::new, LeaningWalls::undo, NO);
        LeaningWalls x = Check.laid(RACE);
        x.pass(1);
        x.lay();
        Check.due("behind lay", x.undo(), NO);
        x.keep();
        x.pass(1);
        x.back();
        Check.due("behind back", x.undo(), NO);
        x.write('f');
        x.see(0, 50, 1);
        x.keep();
        Check.due("letters, what is seen and kept is not undone", x.undo(), NO);
    }

    /** "the last 8 can be", of each sort of change. */
    private static void eightUndone() {
        Stands.Call[] changes = {x -> x.pass(1), x -> x.sick(0), x -> x.share(0, 0, x.count(3) % 2), x -> x.pass(30)};
        for (int sort = 0; sort < changes.length; sort++) {
            for (int many = 0; many <= 20; many++) {
                LeaningWalls x = Check.laid(RACE);
                LeaningWalls y = Check.laid(RACE);
                for (int i = 0; i < many; i++) {
                    changes[sort].on(x);
                    if (i < many - 8) {
                        changes[sort].on(y);
                    }
                }
                Check.due("undoable of " + many, x.count(7), Math.min(many, 8));
                for (int left = Math.min(many, 8) - 1; left >= 0; left--) {
                    Check.due("undone of " + many, x.undo(), left);
                }
                Check.due("no more of " + many, x.undo(), NO);
                Check.due("days of " + many, x.count(3), y.count(3));
                Check.due("sick of " + many, x.count(4), y.count(4));
                Check.due("share of " + many, x.wall(0, 3), y.wall(0, 3));
                Check.due("wall of " + many, x.wall(0, 2), y.wall(0, 2));
                Check.due("land of " + many, x.family(1, 2), y.family(1, 2));
            }
        }
    }

    /** "all that go by at one time are one" */
    private static void daysUndoneAtOnce() {
        LeaningWalls x = Check.laid(RACE);
        x.pass(1);
        x.pass(30);
        Check.due("thirty are one", x.count(7), 2);
        Check.due("undo thirty", x.undo(), 1);
        Check.due("a day is left", x.count(3), 1);
        Check.due("undo a day", x.undo(), 0);
        Stands.alike("all undone", x, Check.laid(RACE));
    }

    /** The count of what can be undone goes on from where it is, and what was undone is gone. */
    private static void undoneAnew() {
        LeaningWalls x = Check.laid(RACE);
        for (int i = 0; i < 9; i++) {
            x.pass(2);
        }
        for (int i = 0; i < 8; i++) {
            x.undo();
        }
        Check.due("the first two days stay", x.count(3), 2);
        Check.due("no more", x.undo(), NO);
        Check.due("three days more", x.pass(3), 5);
        Check.due("one again", x.count(7), 1);
        x.sick(1);
        Check.due("two again", x.count(7), 2);
        Check.due("well again", x.undo(), 1);
        Check.due("not sick", x.family(1, 3), 0);
        Check.due("two days again", x.undo(), 0);
        Check.due("not those undone before", x.count(3), 2);
        Check.due("no more again", x.undo(), NO);
    }

    /** "UNDONE is the latest": each in its turn, the last ones of nine, and refused calls are none of them. */
    private static void lastOfSeveral() {
        LeaningWalls x = Check.laid(RACE);
        x.share(0, 0, 3);
        x.share(0, 0, 2);
        x.sick(0);
        x.pass(7);
        x.sick(1);
        x.share(1, 0, 1);
        x.sick(0);
        x.pass(1);
        x.share(0, 0, 0);
        int[] refused = {x.pass(0), x.pass(31), x.share(0, 0, 5), x.share(0, 1, 0), x.sick(2), x.back()};
        Check.due("refused " + Arrays.toString(refused), Arrays.equals(refused, new int[] {BAD, BAD, NO, BAD, BAD, NO})
            ? 1 : 0, 1);
        // day, SICK, share of 0, share of 1 behind each undoing
        int[][] want = {{8, 2, 2, 1}, {7, 2, 2, 1}, {7, 3, 2, 1}, {7, 3, 2, 2}, {7, 1, 2, 2}, {0, 1, 2, 2},
            {0, 0, 2, 2}, {0, 0, 3, 2}};
        for (int i = 0; i < want.length; i++) {
            Check.due("undone " + i, x.undo(), 7 - i);
            int[] got = {x.count(3), x.family(0, 3) + 2 * x.family(1, 3), x.wall(0, 3), x.wall(0, 4)};
            Check.due("undone " + i + Arrays.toString(got), Arrays.equals(got, want[i]) ? 1 : 0, 1);
        }
        Check.due("the ninth", x.undo(), NO);
        Check.due("the first sharing stays", x.wall(0, 3), 3);
    }

    /** "at most 512 calls": as many days as can be, and a foot of land that goes round on each day of work. */
    private static void calls512() {
        String text = "f3,1,1;f3,1,0;w0,1;w1,0;";
        LeaningWalls x = Check.laid(text);
        x.share(1, 0, 0);
        x.share(1, 1, 1);
        // each does most where it is A: on the first day 1 has no foot at wall 0, then one goes by both walls
        int calls = text.length() + 3;
        int days = 0;
        while (calls < 509) {
            days += 30;
            Check.due("days by call " + calls, x.pass(30), days);
            calls++;
        }
        int work = days - days / 7;
        Check.due("far away, wall 0", x.wall(0, 2), 50 + work - 1);
        Check.due("far away, wall 1", x.wall(1, 2), 50 + work);
        Check.due("all land", x.count(5), 1);
    }
}
