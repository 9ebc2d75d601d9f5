/** Tells every answer that is not the one that is due, and ends a test. */
final class Due {
    private int asked = 0;
    private int wrong = 0;

    void is(String call, long got, long want) {
        asked++;
        if (got != want) {
            wrong++;
            System.out.println(call + " answered " + got + ", due is " + want);
        }
    }

    void holds(String what, boolean so) {
        is(what, so ? 1 : 0, 1);
    }

    /** A text on the PAD, which was wiped first. */
    static HostageRound write(HostageRound x, String text) {
        x.wipe();
        for (int i = 0; i < text.length(); i++) {
            x.say(text.charAt(i));
        }
        return x;
    }

    /** A text on the PAD that is DONE. */
    HostageRound live(HostageRound x, String text, int acts) {
        write(x, text);
        is("done() of " + text, x.done(), acts);
        return x;
    }

    static HostageRound fresh(int lands, int days) {
        HostageRound x = new HostageRound();
        x.lands(lands);
        x.season(days);
        return x;
    }

    void end() {
        System.out.println(asked + " answers, " + wrong + " of them not as due");
        if (wrong != 0) {
            System.exit(1);
        }
    }
}
