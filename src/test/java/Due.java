/** What the tests share: each compares answers with those that are due, and ends with 1 if one is not. */
final class Due {
    private static int asked = 0;
    private static int wrong = 0;
    private static String sentence = "";

    private Due() {
    }

    /** The answers from here on are due by this sentence of the document. */
    static void by(String words) {
        sentence = "[" + words + "] ";
    }

    static void is(String call, long got, long want) {
        asked++;
        if (got != want) {
            isWrong(call + " answered " + got + ", due is " + want);
        }
    }

    static void same(String what, String got, String want) {
        asked++;
        if (!got.equals(want)) {
            isWrong(what + ": it is\n  " + got + "\n  due is\n  " + want);
        }
    }

    static void isWrong(String what) {
        wrong++;
        System.out.println(sentence + what);
    }

    static int asked() {
        return asked;
    }

    static int type(PinAtlas x, String text) {
        int typed = 0;
        for (int k = 0; k < text.length(); k++) {
            typed = x.type(text.charAt(k));
        }
        return typed;
    }

    static int read(PinAtlas x, String text) {
        type(x, text);
        return x.read();
    }

    static PinAtlas of(String text) {
        PinAtlas x = new PinAtlas();
        int pins = read(x, text);
        if (pins < 0) {
            isWrong("the test's own text is at fault: " + text + ": " + pins);
        }
        return x;
    }

    static void end() {
        System.out.println(wrong == 0 ? asked + " answers are as due" : wrong + " of " + asked + " answers are not as due");
        if (wrong != 0) {
            System.exit(1);
        }
    }
}
