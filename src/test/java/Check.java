/** Compares answers with those that are due, and counts what differs. */
final class Check {
    private final String name;
    private int calls;
    private int wrong;

    Check(String name) {
        this.name = name;
    }

    void due(String call, long got, long want) {
        calls++;
        if (got == want) return;
        wrong++;
        System.out.println(name + ": " + call + " answered " + got + ", due is " + want);
    }

    /** A new object that was told a text which has no fault. */
    FlotsamWill told(String text) {
        FlotsamWill x = new FlotsamWill();
        tell(x, text);
        return x;
    }

    void tell(FlotsamWill x, String text) {
        int lines = 0;
        for (int j = 0; j < text.length(); j++) {
            if (text.charAt(j) == ';') lines++;
        }
        due("text of \"" + text + "\"", put(x, text), lines);
        due("fault of \"" + text + "\"", x.fault(), 0);
    }

    /** Feeds a text to an empty tape and has it read. */
    int put(FlotsamWill x, String text) {
        feed(x, text);
        return x.text();
    }

    void feed(FlotsamWill x, String text) {
        for (int j = 0; j < text.length(); j++) x.feed(text.charAt(j));
    }

    void finish() {
        System.out.println(name + ": " + calls + " answers, " + wrong + " not as due");
        if (wrong != 0) System.exit(1);
    }
}
