/** What the tests share: it prints each answer that is not as due, and ends with 1 if there was one. */
final class Check {
    private int wrong = 0;

    void due(String call, long want, long got) {
        if (got != want) {
            wrong++;
            if (wrong <= 50) {
                System.out.println(call + " answered " + got + ", due is " + want);
            }
        }
    }

    void holds(String what, boolean so) {
        due(what, 1, so ? 1 : 0);
    }

    int wrongAnswers() {
        return wrong;
    }

    void end(String name) {
        System.out.println(name + ": " + (wrong == 0 ? "all answers are as due" : wrong + " answers are not as due"));
        if (wrong != 0) {
            System.exit(1);
        }
    }

    /** Writes a text behind THE TEXT, byte by byte as told by its characters. */
    static void append(FerriesLevel x, String text) {
        for (int i = 0; i < text.length(); i++) {
            x.write(1, text.charAt(i));
        }
    }

    static FerriesLevel told(String text) {
        FerriesLevel x = new FerriesLevel();
        append(x, text);
        return x;
    }

    static FerriesLevel ferry(String text) {
        FerriesLevel x = told(text);
        if (x.ferry() < 0) {
            throw new IllegalStateException("no ferry: " + text);
        }
        return x;
    }
}
