/** The edges of head 1 and of promises 1 to 5: letters, items, numbers, what is told ahead, what is laid. */
public final class TextEdgesTest {
    private static final int BAD = Check.BAD, NO = Check.NO, FULL = Check.FULL, NONE = Check.NONE;
    private static final String FIRST =
        "f0,5,20;f1,8,12;f2,4,9;f3,3,15;f4,6,30;w0,1;w1,2;w2,3;w3,0;w0,4;w4,2;t0,22;t1,18;t4,21;";
    private static final String TWO = "f0,5,20;f0,5,20;";
    private static final String WALL = TWO + "w0,1;";
    private static final String SIX = "f0,1,9;f0,1,9;f0,1,9;f0,1,9;f0,1,9;f0,1,9;";
    private static final String EIGHT = SIX + "w0,1;w1,2;w2,3;w3,4;w4,5;w5,0;w0,2;w1,3;";
    // every number of two figures, as many items as there may be: no lawful text is longer
    private static final String LONGEST = "f04,12,99;f04,12,99;f04,12,99;f04,12,99;f04,12,99;f04,12,99;"
        + "w00,01;w01,02;w02,03;w03,04;w04,05;w05,00;w00,02;w01,03;t07,40;t07,40;t07,40;t07,40;t07,40;t07,40;";

    public static void main(String[] args) {
        lettersFrom32To126();
        twoHundredLetters();
        lettersBeginAgain();
        emptyText();
        fullText();
        itemsBeginWithALetter();
        oneOrTwoFigures();
        asManyNumbers();
        signsBetween();
        lastSemicolon();
        kinds();
        hours();
        land();
        sixFamilies();
        unlikeFamilies();
        familiesToldAhead();
        eightWalls();
        fourWallsEach();
        wallToldAhead();
        feetOfTrees();
        sixTrees();
        firstFaultOfSeveral();
        aFamilyAtLeast();
        laidAtFirst();
        laidCountsBeginAgain();
        laidWithAFault();
        Check.end();
    }

    private static void fault(String text, int want) {
        LeaningWalls x = Check.written(text);
        Check.due("fault of " + text, x.fault(), want);
        Check.due("fault of " + text + ", asked again", x.fault(), want);
        if (want != NONE) {
            Check.due("laid with a fault: " + text, x.lay(), NO);
        }
    }

    /** "A letter (32 to 126, as in ASCII)" */
    private static void lettersFrom32To126() {
        for (int letter = -1; letter <= 256; letter++) {
            LeaningWalls x = new LeaningWalls();
            boolean is = letter >= 32 && letter <= 126;
            Check.due("write " + letter, x.write(letter), is ? 1 : BAD);
            Check.due("letters behind " + letter, x.count(9), is ? 1 : 0);
        }
    }

    /** "letters (200 at most)" */
    private static void twoHundredLetters() {
        LeaningWalls x = new LeaningWalls();
        for (int i = 1; i <= 200; i++) {
            Check.due("letter " + i, x.write(i % 2 == 0 ? 32 : 126), i);
        }
        Check.due("letter 201", x.write(32), FULL);
        Check.due("once more", x.write(126), FULL);
        Check.due("letters when full", x.count(9), 200);
    }

    /** "THE TEXT is empty: how long it was": the count of letters begins again. */
    private static void lettersBeginAgain() {
        LeaningWalls x = new LeaningWalls();
        Check.due("wipe what is empty", x.wipe(), 0);
        for (int i = 0; i < 200; i++) {
            x.write('f');
        }
        Check.due("wipe what is full", x.wipe(), 200);
        Check.due("no letters", x.count(9), 0);
        Check.due("the first letter again", x.write('f'), 1);
        Check.due("wipe one", x.wipe(), 1);
        Check.write(x, "f4,1,2;");
        Check.due("nothing is left of the letters before", x.fault(), NONE);
        Check.due("lay them", x.lay(), 1);
        Check.due("its kind", x.family(0, 0), 4);
    }

    /** Empty is without FAULT, but not LAID. */
    private static void emptyText() {
        fault("", NONE);
        Stands.unchanged("lay an empty text", LeaningWalls::new, LeaningWalls::lay, NO);
        Stands.unchanged("fault of an empty text", LeaningWalls::new, LeaningWalls::fault, NONE);
        Stands.unchanged("wipe an empty text", LeaningWalls::new, LeaningWalls::wipe, 0);
    }

    /** The longest lawful text, and 200 letters, full to the last. */
    private static void fullText() {
        fault(LONGEST, NONE);
        LeaningWalls x = Check.laid(LONGEST);
        Check.due("letters of the longest", x.count(9), 158);
        int[] most = {6, 8, 6, 0, 0, 6 * 99};
        for (int what = 0; what < most.length; what++) {
            Check.due("longest, count " + what, x.count(what), most[what]);
        }
        fault(LONGEST + "f", 158);
        fault(LONGEST + "x".repeat(42), 158);
        fault(LONGEST + "f04,12,99;" + "x".repeat(32), 158);
        fault("f".repeat(200), 0);
        fault("f0,5,20;" + "w".repeat(192), 8);
        fault(";".repeat(200), 0);
        fault("f0,5,20;" + "1".repeat(192), 8);
        fault("f" + "1".repeat(199), 0);
    }

    /** "each a letter" : f, w or t, and none beside them. */
    private static void itemsBeginWithALetter() {
        for (char letter = 32; letter <= 126; letter++) {
            fault(WALL + letter + "0,1,1;", letter == 'f' ? NONE : 21);
            fault(WALL + letter + "0,1;", letter == 'w' || letter == 't' ? NONE : 21);
        }
        fault(WALL + "ff0,1,1;", 21);
        fault(WALL + "wt0,1;", 21);
    }

    /** "numbers (one or two figures)": each number with none, one, two and three. */
    private static void oneOrTwoFigures() {
        String[] items = {"f#,5,9;", "f0,#,9;", "f0,5,#;", "w#,1;", "w1,#;", "t#,5;", "t0,#;"};
        for (String item : items) {
            fault(WALL + item.replace("#", ""), 21);
            fault(WALL + item.replace("#", "0"), NONE);
            fault(WALL + item.replace("#", "00"), NONE);
            fault(WALL + item.replace("#", "000"), 21);
            fault(WALL + item.replace("#", "-0"), 21);
            fault(WALL + item.replace("#", "+0"), 21);
            fault(WALL + item.replace("#", " 0"), 21);
            fault(WALL + item.replace("#", "0 "), 21);
            // the signs on both sides of the figures
            fault(WALL + item.replace("#", "/"), 21);
            fault(WALL + item.replace("#", ":"), 21);
            fault(WALL + item.replace("#", "0/"), 21);
            fault(WALL + item.replace("#", "0:"), 21);
        }
        LeaningWalls x = Check.laid("f04,10,09;f03,09,90;w01,00;t00,21;");
        int[][] told = {{4, 10, 9}, {3, 9, 90}};
        for (int f = 0; f < 2; f++) {
            for (int what = 0; what < 3; what++) {
                Check.due("figures of family " + f + ", " + what, x.family(f, what), told[f][what]);
            }
        }
        Check.due("A by two figures", x.wall(0, 0), 1);
        Check.due("B by two figures", x.wall(0, 1), 0);
    }

    /** As many numbers as its form shows: one fewer and one more is not so. */
    private static void asManyNumbers() {
        fault(WALL + "f;", 21);
        fault(WALL + "f0,1;", 21);
        fault(WALL + "f0,1,1,1;", 21);
        fault(WALL + "w;", 21);
        fault(WALL + "w0;", 21);
        fault(WALL + "w0,1,1;", 21);
        fault(WALL + "t;", 21);
        fault(WALL + "t0;", 21);
        fault(WALL + "t0,1,1;", 21);
    }

    /** "parted by , and a ; behind the last one" */
    private static void signsBetween() {
        for (char sign = 32; sign <= 126; sign++) {
            // a figure in place of the first sign makes a number of three figures, or one number too few
            fault(WALL + "f00" + sign + "5,20;", sign == ',' ? NONE : 21);
            fault(WALL + "f0,05" + sign + "20;", sign == ',' ? NONE : 21);
            fault(WALL + "f0,5,20" + sign, sign == ';' ? NONE : 21);
            fault(WALL + "w01" + sign + "0;", sign == ',' ? NONE : 21);
            fault(WALL + "w1,00" + sign, sign == ';' ? NONE : 21);
            fault(WALL + "t00" + sign + "0;", sign == ',' ? NONE : 21);
            fault(WALL + "t0,00" + sign, sign == ';' ? NONE : 21);
        }
        fault(WALL + "f,0,5,20;", 21);
        fault(WALL + "f0,,5,20;", 21);
        fault(WALL + "f0,5,20,;", 21);
        fault(WALL + "f0,5,20;;", 29);
    }

    /** A text that ends within its last item has its fault there, wherever it ends. */
    private static void lastSemicolon() {
        int[] begins = new int[FIRST.length() + 1];
        for (int i = 1; i <= FIRST.length(); i++) {
            begins[i] = FIRST.charAt(i - 1) == ';' ? i : begins[i - 1];
        }
        for (int length = 0; length <= FIRST.length(); length++) {
            fault(FIRST.substring(0, length), begins[length] == length ? NONE : begins[length]);
        }
    }

    /** "KIND K (0 PLAIN, 1 POET, 2 MOANER, 3 with a DOG, 4 HIRER)" */
    private static void kinds() {
        for (int kind = 0; kind <= 99; kind++) {
            fault("f" + kind + ",5,20;", kind <= 4 ? NONE : 0);
        }
        fault("f05,5,20;", 0);
        fault("f04,5,20;", NONE);
    }

    /** "H (0 to 12) HOURS a day" */
    private static void hours() {
        for (int hours = 0; hours <= 99; hours++) {
            fault("f0," + hours + ",20;", hours <= 12 ? NONE : 0);
        }
        Check.due("no hours", Check.laid("f0,0,20;").family(0, 1), 0);
        Check.due("twelve hours", Check.laid("f0,12,20;").family(0, 1), 12);
    }

    /** "L (0 to 99) feet of LAND" */
    private static void land() {
        for (int land = 0; land <= 101; land++) {
            fault("f0,5," + land + ";", land <= 99 ? NONE : 0);
        }
        Check.due("no land", Check.laid("f0,5,0;").family(0, 2), 0);
        Check.due("99 feet", Check.laid("f0,5,99;").family(0, 2), 99);
    }

    /** "6 at most, 0, 1, .." */
    private static void sixFamilies() {
        for (int many = 1; many <= 6; many++) {
            LeaningWalls x = Check.written(SIX.substring(0, 7 * many));
            Check.due(many + " families have no fault", x.fault(), NONE);
            Check.due(many + " families", x.lay(), many);
            Check.due("the last of " + many, x.family(many - 1, 2), 9);
            Check.due("one more than " + many, x.family(many, 2), BAD);
        }
        fault(SIX + "f0,1,9;", 42);
        fault(SIX + "f0,1,9;f0,1,9;", 42);
        fault(EIGHT + "f0,1,9;", 82);
    }

    /** "FAMILIES A and B (unlike ..)" */
    private static void unlikeFamilies() {
        for (int a = 0; a < 6; a++) {
            for (int b = 0; b < 6; b++) {
                fault(SIX + "w" + a + "," + b + ";", a == b ? 42 : NONE);
            }
        }
        fault(SIX + "w00,0;", 42);
        fault(SIX + "w5,05;", 42);
    }

    /** "both told ahead": the last family told is the last one that can be an end. */
    private static void familiesToldAhead() {
        fault("w0,1;", 0);
        fault("w0,1;" + TWO, 0);
        for (int many = 1; many <= 5; many++) {
            String ahead = SIX.substring(0, 7 * many);
            fault(ahead + "w0," + many + ";", 7 * many);
            fault(ahead + "w" + many + ",0;", 7 * many);
            fault(ahead + "w0," + many + ";f0,1,9;", 7 * many);
            fault(ahead + "f0,1,9;w0," + many + ";", NONE);
            fault(ahead + "f0,1,9;w" + many + ",0;", NONE);
        }
        fault(SIX + "w0,6;", 42);
        fault(SIX + "w6,0;", 42);
        fault(SIX + "w0,99;", 42);
        fault(SIX + "w99,0;", 42);
        // families may be told behind walls that are not theirs
        fault("f0,1,9;f0,1,9;w0,1;f0,1,9;w2,0;", NONE);
    }

    /** "8 at most, 0, 1, .." */
    private static void eightWalls() {
        for (int many = 1; many <= 8; many++) {
            LeaningWalls x = Check.laid(EIGHT.substring(0, 42 + 5 * many));
            Check.due(many + " walls", x.count(1), many);
            Check.due("the last of " + many, x.wall(many - 1, 2), 50);
            Check.due("one more than " + many, x.wall(many, 2), BAD);
        }
        // families 2, 4 and 5 have fewer than four walls each, so it is the ninth wall that is not so
        fault(EIGHT, NONE);
        fault(EIGHT + "w4,5;", 82);
        fault(EIGHT + "w2,4;", 82);
        fault(EIGHT + "t0,5;w5,4;", 87);
    }

    /** "4 of each FAMILY at most" */
    private static void fourWallsEach() {
        String four = SIX + "w0,1;w2,0;w0,3;w4,0;";
        fault(four, NONE);
        Check.due("walls of 0", Check.laid(four).family(0, 4), 4);
        fault(four + "w0,5;", 62);
        fault(four + "w5,0;", 62);
        fault(four + "w5,1;w0,1;", 67);
        fault(four + "w5,1;w1,0;", 67);
        fault(four + "w5,1;w1,5;", NONE);
        String asA = SIX + "w0,1;w0,2;w0,3;w0,4;";
        fault(asA, NONE);
        fault(asA + "w5,0;", 62);
        fault(asA + "w0,5;", 62);
        String asB = SIX + "w1,5;w2,5;w3,5;w4,5;";
        fault(asB, NONE);
        fault(asB + "w5,0;", 62);
        fault(asB + "w0,5;", 62);
        fault(TWO + "w0,1;w0,1;w0,1;w0,1;", NONE);
        fault(TWO + "w0,1;w0,1;w0,1;w0,1;w1,0;", 36);
        // eight walls by which four families have four each
        fault("f0,1,9;f0,1,9;f0,1,9;f0,1,9;w0,1;w1,2;w2,3;w3,0;w0,1;w1,2;w2,3;w3,0;", NONE);
    }

    /** "a TREE at WALL W (told ahead)" */
    private static void wallToldAhead() {
        fault("t0,20;", 0);
        fault(TWO + "t0,20;", 16);
        fault(TWO + "t0,20;w0,1;", 16);
        fault(WALL + "t0,20;", NONE);
        fault(WALL + "t1,20;", 21);
        fault(WALL + "t1,20;w1,0;", 21);
        fault(WALL + "w1,0;t1,20;", NONE);
        fault(EIGHT + "t7,20;", NONE);
        fault(EIGHT + "t8,20;", 82);
        fault(EIGHT + "t99,20;", 82);
    }

    /** "T (0 to 40)" */
    private static void feetOfTrees() {
        for (int feet = 0; feet <= 99; feet++) {
            fault(WALL + "t0," + feet + ";", feet <= 40 ? NONE : 21);
        }
    }

    /** "6 at most, 0, 1, .." */
    private static void sixTrees() {
        String trees = "t0,20;t0,20;t0,20;t0,20;t0,20;t0,20;";
        for (int many = 1; many <= 6; many++) {
            LeaningWalls x = Check.laid(WALL + trees.substring(0, 6 * many));
            Check.due(many + " trees", x.count(2), many);
            Check.due("the last of " + many, x.tree(many - 1), 0);
            Check.due("one more than " + many, x.tree(many), BAD);
        }
        fault(WALL + trees + "t0,20;", 57);
        fault(WALL + trees + "w0,1;t0,20;", 62);
    }

    /** "the place (from 0 on) of the first letter of the first ITEM that is not so" */
    private static void firstFaultOfSeveral() {
        fault("x", 0);
        fault("x;f0,5,20;x;", 0);
        fault("f0,5,20;f9,5,20;f0,5,20;w0,0;", 8);
        fault("f0,5,20;w0,0;f9,5,20;", 8);
        fault(TWO + "w0,1;t0,41;w0,0;", 21);
        // what is wrong at an item's end is told by its beginning
        fault("f0,5,20;f0,5,2x;", 8);
        fault("f0,5,20;f0,5,99", 8);
    }

    /** "LAID is a TEXT without FAULT, of a FAMILY at least (NO else ..)" */
    private static void aFamilyAtLeast() {
        LeaningWalls x = Check.written("f0,0,0;");
        Check.due("the least that can be laid", x.lay(), 1);
        Check.due("no walls", x.count(1), 0);
        Check.due("no trees", x.count(2), 0);
        Check.due("no land", x.count(5), 0);
        Check.due("no days", x.count(3), 0);
        Check.due("days go by all the same", x.pass(30), 30);
        x.wipe();
        Check.due("lay nothing", x.lay(), NO);
        Check.due("its county stays", x.count(0), 1);
        Check.due("its days stay", x.count(3), 30);
    }

    /** "at first f0,5,20;f1,8,12;..": a new object is as if that had been laid, but THE TEXT is empty. */
    private static void laidAtFirst() {
        LeaningWalls x = Check.laid(FIRST);
        x.wipe();
        Stands.alike("at first", new LeaningWalls(), x);
        LeaningWalls y = new LeaningWalls();
        y.pass(9);
        Check.due("an empty text is not that of the first county", y.lay(), NO);
        Check.due("the first county goes on", y.count(3), 9);
    }

    /** "day 0, nobody SICK, SHARED as at first, nothing SEEN, UNDONE, KEPT; THE TEXT stays", from the most of each. */
    private static void laidCountsBeginAgain() {
        String text = "f0,4,20;f0,4,12;w1,0;w0,1;t0,19;";
        LeaningWalls x = Check.laid(text);
        x.sick(0);
        x.sick(1);
        x.share(0, 0, 0);
        x.share(0, 1, 4);
        for (int i = 0; i < 6; i++) {
            x.pass(30);
            x.see(1, 0, 1);
            x.keep();
        }
        int[] most = {2, 2, 1, 180, 2, 32, 6, 8, 2, 32};
        int[] again = {2, 2, 1, 0, 0, 32, 0, 0, 0, 32};
        for (int what = 0; what < 10; what++) {
            Check.due("ahead of laying, count " + what, x.count(what), most[what]);
        }
        Check.due("lay anew", x.lay(), 2);
        for (int what = 0; what < 10; what++) {
            Check.due("laid anew, count " + what, x.count(what), again[what]);
        }
        Check.due("one is seen again", x.see(0, 0, 1), 1);
        Check.due("one is kept again", x.keep(), 1);
        Check.due("a day goes by again", x.pass(1), 1);
        Check.due("and is all that can be undone", x.undo(), 0);
        x.forget();
        x.back();
        Stands.alike("laid anew", x, Check.laid(text));
    }

    /** "NO": nothing changes, though the text would tell another county up to its fault. */
    private static void laidWithAFault() {
        Stands.unchanged("lay a fault", () -> lived("f1,1,1;w0,0;"), LeaningWalls::lay, NO);
        Stands.unchanged("lay what ends too early", () -> lived("f1,1,1"), LeaningWalls::lay, NO);
        Stands.unchanged("fault", () -> lived("f1,1,1;w0,0;"), LeaningWalls::fault, 7);
    }

    /** A county in which much has happened, with another text written. */
    private static LeaningWalls lived(String text) {
        LeaningWalls x = Check.laid(WALL + "t0,21;");
        x.share(0, 0, 3);
        x.pass(2);
        x.keep();
        x.sick(1);
        x.see(0, 49, 1);
        x.wipe();
        Check.write(x, text);
        return x;
    }
}
