/** What the tests share: an object fed with texts, and answers held against those that are due. */
final class Check {
    private int wrong;
    private int asked;

    /** A new object. */
    static AlgolMill mill() {
        return new AlgolMill();
    }

    /** Feeds the text, one character a byte; a feed that would go beyond 8192 begins further back. */
    static void feed(AlgolMill mill, String text) {
        if (text.length() > 8192) {
            throw new IllegalArgumentException("a text of " + text.length());
        }
        int at = 0;
        while (at < text.length()) {
            int back = Math.max(mill.count(0) + 20 - 8192, 0);
            mill.end(back);
            at -= back;
            mill.feed(number(text, at), number(text, at + 4), number(text, at + 8), number(text, at + 12),
                number(text, at + 16));
            at += 20;
        }
        mill.end(at - text.length());
    }

    private static int number(String text, int from) {
        int number = 0;
        for (int i = from; i < from + 4; i++) {
            number = number << 8 | (i < text.length() ? text.charAt(i) : 0);
        }
        return number;
    }

    void due(String what, Object got, Object want) {
        asked++;
        if (!String.valueOf(got).equals(String.valueOf(want))) {
            wrong++;
            System.out.println(what + " answered " + got + ", due is " + want);
        }
    }

    /** What build answers, or the fault and where. */
    static String built(AlgolMill mill, String text) {
        feed(mill, text);
        String answer;
        try {
            answer = String.valueOf(mill.build());
        } catch (IllegalStateException e) {
            answer = "refused";
        }
        return answer + " " + mill.count(1) + " " + mill.count(2);
    }

    /** The text is a PROGRAM without a fault, of so many procedures. */
    void good(String text, int procedures) {
        due(text, built(mill(), text), procedures + " 0 -1");
    }

    /** The text has this fault; a ? in it shows where (and isn't in the text). */
    void fault(int number, String marked) {
        int where = marked.indexOf('?');
        String text = marked.substring(0, where) + marked.substring(where + 1);
        due(text, built(mill(), text), "refused " + number + " " + where);
    }

    /** What a run of the text answers, and what it prints. */
    void runs(String text, String want) {
        due(text, ran(text, 20000), want);
    }

    private static String ran(String text, int steps) {
        AlgolMill mill = mill();
        if (built(mill, text).startsWith("refused")) {
            return "fault " + mill.count(1) + " at " + mill.count(2);
        }
        StringBuilder answer = new StringBuilder();
        answer.append(mill.run(steps)).append(':');
        for (int i = 0; i < Math.min(500, mill.count(3)); i++) {
            answer.append(' ').append(mill.out(i));
        }
        if (mill.count(7) != 0) {
            answer.append(" with words that can't be");
        }
        return answer.toString();
    }

    /** What counts 3 to 6 are after a run that may take so many steps. */
    void costs(String text, int steps, String want) {
        AlgolMill mill = mill();
        String built = built(mill, text);
        if (built.startsWith("refused")) {
            due(text, built, want);
            return;
        }
        int answer = mill.run(steps);
        due(text, answer + ": " + mill.count(3) + " " + mill.count(4) + " " + mill.count(5) + " " + mill.count(6), want);
        due(text + " count(7)", mill.count(7), 0);
    }

    void end() {
        System.out.println(asked + " answers asked for, " + wrong + " wrong");
        if (wrong > 0) {
            System.exit(1);
        }
    }
}
