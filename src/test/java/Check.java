/** What the tests share: it prints each answer that is not as due, and ends with 1 if there was one. */
final class Check {
    private int wrong = 0;
    private String sentence = "";

    /** The sentence of the document that the answers behind this are due by. */
    void says(String quoted) {
        sentence = quoted;
    }

    void due(String call, long want, long got) {
        if (got != want) {
            wrong++;
            if (wrong <= 50) {
                System.out.println(call + " answered " + got + ", due is " + want + by());
            }
        }
    }

    void same(String what, String want, String got) {
        if (!got.equals(want)) {
            wrong++;
            if (wrong <= 50) {
                System.out.println(what + " is\n  " + got + ", due is\n  " + want + by());
            }
        }
    }

    void holds(String what, boolean so) {
        due(what, 1, so ? 1 : 0);
    }

    private String by() {
        return sentence.isEmpty() ? "" : ": \"" + sentence + "\"";
    }

    int wrongAnswers() {
        return wrong;
    }

    void end(String name) {
        System.out.println(name + ": " + (wrong == 0 ? "all answers are as due" : wrong + " answers are not as due"));
        if (wrong != 0) {
            System.exit(1);
        }
    }

    /** Writes a text behind THE TEXT, eight bytes a call: an object is good for 512 calls only. */
    static void append(FerriesLevel x, String text) {
        for (int i = 0; i < text.length(); i += 8) {
            String piece = text.substring(i, Math.min(text.length(), i + 8));
            x.write(piece.length(), bytes(piece));
        }
    }

    static long bytes(String piece) {
        long v = 0;
        for (int i = 0; i < piece.length(); i++) {
            v = v << 8 | piece.charAt(i);
        }
        return v;
    }

    static FerriesLevel told(String text) {
        FerriesLevel x = new FerriesLevel();
        append(x, text);
        return x;
    }

    static FerriesLevel ferry(String text) {
        FerriesLevel x = told(text);
        if (x.ferry() < 0) {
            throw new IllegalStateException("no ferry: " + text);
        }
        return x;
    }

    /** Lays PEOPLE as a row of signs tells it: an END for each, or '-' for one that is not laid. */
    static FerriesLevel lay(FerriesLevel x, String ends) {
        for (int p = 0; p < ends.length(); p++) {
            if (ends.charAt(p) != '-' && x.lay(p, ends.charAt(p) - '0') < 1) {
                throw new IllegalStateException("not laid: " + ends);
            }
        }
        return x;
    }

    /** One boat leaves for each row. */
    static FerriesLevel leave(FerriesLevel x, String... boats) {
        for (String ends : boats) {
            if (lay(x, ends).leave() < 0) {
                throw new IllegalStateException("did not leave: " + ends);
            }
        }
        return x;
    }

    /** Eight BOATS that left, one PERSON in each at END 1, against the LIST. */
    static FerriesLevel eightBoats() {
        return leave(ferry("B21119" + "P0911".repeat(8)), "1", "-1", "--1", "---1", "----1", "-----1",
                "------1", "-------1");
    }
}
