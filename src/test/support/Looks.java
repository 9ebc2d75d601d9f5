/** What an object looks like from outside, so that two can be compared. */
final class Looks {
    private Looks() {
    }

    /** An object in which much has happened; it is the third day of a season, both IMAGES are kept. */
    static HostageRound busy() {
        HostageRound x = new HostageRound();
        x.lands(3);
        x.season(4);
        x.set(2, 0, 5);
        x.seen(0, false);
        live(x, "AB;Bs.");
        x.image(0);
        x.lands(5);
        x.season(7);
        x.set(0, 0, 3);
        x.set(4, 0, 9);
        x.set(1, 1, 1);
        x.set(3, 1, 1);
        x.seen(2, false);
        x.seen(1, true);
        live(x, "ABCs;Dm.Ed.");
        x.image(1);
        live(x, ":;Cs..");
        Due.write(x, "Bs;AC.");
        return x;
    }

    private static void live(HostageRound x, String text) {
        Due.write(x, text);
        x.done();
    }

    /** The two look the same, and so do both of their IMAGES. They are used up by it. */
    static void compare(Due due, String call, HostageRound x, HostageRound untouched) {
        due.same(call, all(x), all(untouched));
        for (int n = 0; n < 2; n++) {
            due.is(call + ": image " + n, x.restore(n), untouched.restore(n));
            due.same(call + ": image " + n, all(x), all(untouched));
        }
    }

    /** Some eighty calls that change nothing. */
    static String all(HostageRound x) {
        StringBuilder look = new StringBuilder();
        for (int what = 0; what <= 25; what++) {
            put(look, "told", what, x.told(what));
        }
        for (int child = 0; child < x.told(1); child++) {
            for (int what = 0; what <= 2; what++) {
                put(look, "state", 10 * child + what, x.state(child, what));
                put(look, "behind", 10 * child + what, x.behind(child, what));
            }
            put(look, "names", child, x.names(child));
        }
        put(look, "letter", 10, x.letter(1, 0));
        put(look, "fault", 0, x.fault());
        put(look, "day", 0, x.day());
        for (int what = 0; what <= 1; what++) {
            put(look, "judge", what, x.judge(what));
            put(look, "hear", what, x.hear(what));
            put(look, "changed", what - 1, x.changed(what - 1));
        }
        return look.toString();
    }

    private static void put(StringBuilder look, String call, int of, int answer) {
        look.append(' ').append(call).append(' ').append(of).append('=').append(answer);
    }
}
