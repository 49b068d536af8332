/** What the tests share: answers that are due, and counties laid from a text. */
final class Check {
    static final int BAD = -1, NO = -2, FULL = -3, NONE = -4;

    private static int wrong = 0;
    private static int asked = 0;

    private Check() { }

    static void due(String what, int got, int want) {
        asked++;
        if (got != want) {
            wrong++;
            System.out.println(what + " answered " + got + ", due is " + want);
        }
    }

    static void write(LeaningWalls x, String text) {
        for (int i = 0; i < text.length(); i++) {
            x.write(text.charAt(i));
        }
    }

    static LeaningWalls written(String text) {
        LeaningWalls x = new LeaningWalls();
        write(x, text);
        return x;
    }

    static LeaningWalls laid(String text) {
        LeaningWalls x = written(text);
        if (x.lay() < 1) {
            wrong++;
            System.out.println("not laid: " + text);
        }
        return x;
    }

    static void end() {
        System.out.println(wrong == 0 ? asked + " answers are as due" : wrong + " answers are not as due");
        if (wrong != 0 || asked == 0) {
            System.exit(1);
        }
    }
}
