/** Promises 33 to 36: years by draws, images, what is told. */
public final class DrawsAndImagesTest {
    private static final Due due = new Due();

    public static void main(String[] args) {
        year();
        images();
        told();
        due.end();
    }

    private static void drawn(HostageRound x, int seed, int m, int days, int names, int empty) {
        due.is("days of " + seed + " " + m, x.year(seed, m, 0), days);
        due.is("NAMES of " + seed + " " + m, x.year(seed, m, 1), names);
        due.is("LANDS of " + seed + " " + m, x.year(seed, m, 2), empty);
    }

    private static void year() {
        HostageRound x = new HostageRound();
        // from seed 0: 74 ten days; 5624 CHILD 703 (D) STAYS; 28652 the rest of the season
        drawn(x, 0, 1, 10, 4, 0);
        drawn(x, 0, 2, 10, 4, 0);
        drawn(x, 0, 3, 90, 4, 2);
        // from seed 5: 449 CHILDREN 56 (A) and 7 (D) change hats
        drawn(x, 5, 1, 0, 2, 0);
        due.is("nothing is done", x.told(3), 0);
        due.is("nobody changed hats in fact", x.state(0, 1), 0);
        due.live(x, "Dm", 1);
        drawn(x, 0, 3, 90, 4, 2);
        due.live(x, "Dd", 1);
        drawn(x, 0, 3, 90, 3, 2);
        drawn(x, 5, 1, 0, 3, 1);
        due.live(x, ":", 1);
        drawn(x, 0, 3, 80, 3, 2);
        x = Due.fresh(4, 90);
        due.live(x, ".", 1);
        drawn(x, 5, 1, 0, 4, 0);
        x = Due.fresh(4, 90);
        due.live(x, "AdBd", 2);
        drawn(x, 5, 1, 0, 2, 2 + 4);
        x = Due.fresh(3, 90);
        // of three: CHILDREN 56 (C) and 7 (B)
        drawn(x, 5, 1, 0, 1, 0);
        x.season(3);
        // ten days of seasons of three: three equinoxes, A 2 1 2, B 0 2 0, C 1 0 1
        drawn(x, 0, 1, 10, 3, 0);
        due.is("seed -1", x.year(-1, 1, 0), -2);
        due.is("seed 10000", x.year(10000, 1, 0), -2);
        due.is("m 0", x.year(0, 0, 0), -2);
        due.is("m 100", x.year(0, 100, 0), -2);
        due.is("what -1", x.year(0, 1, -1), -2);
        due.is("what 3", x.year(0, 1, 3), -2);
        due.is("seed 9999", x.year(9999, 99, 0) >= 0 ? 1 : 0, 1);
    }

    private static void images() {
        HostageRound x = new HostageRound();
        due.is("restore nothing", x.restore(0), -3);
        due.is("restore nothing", x.restore(1), -3);
        due.is("image -1", x.image(-1), -2);
        due.is("image 2", x.image(2), -2);
        due.is("restore -1", x.restore(-1), -2);
        due.is("restore 2", x.restore(2), -2);
        x.lands(5);
        x.season(20);
        x.set(4, 0, 3);
        x.set(3, 1, 1);
        x.seen(2, true);
        due.live(x, "AB;CsDmEd:.", 7);
        due.is("image 1", x.image(1), 1);
        due.is("the other one is not", x.restore(0), -3);
        due.live(x, "Ad;BC", 3);
        x.season(30);
        x.set(4, 0, 9);
        x.set(3, 1, 0);
        x.forget();
        x.seen(1, false);
        x.seen(2, false);
        due.is("image 0", x.image(0), 1);
        x.lands(3);
        Due.write(x, "zz");
        due.is("restore 1", x.restore(1), 1);
        int[] was = {2, 5, 20, 31, 1, 15, 1};
        for (int what = 0; what < was.length; what++) {
            due.is("restored told " + what, x.told(what), was[what]);
        }
        due.is("COLD restored", x.told(14), 3);
        due.is("coughs restored", x.told(23), 1);
        due.is("NAME restored", x.state(0, 1), 1);
        due.is("STAYS restored", x.state(2, 2), 1);
        due.is("married restored", x.state(3, 2), 2);
        due.is("LAND restored", x.state(0, 0), 2);
        due.is("day of the season restored", x.where(0, 9), 3);
        due.is("and the day ahead of it", x.where(0, 8), 2);
        due.is("SIGHT restored", x.names(3), 1 << 2);
        due.live(x, "Bd", 1);
        due.is("restore 1 again", x.restore(1), 1);
        due.is("an IMAGE is no part of what goes on", x.told(5), 15);
        due.is("restore 0", x.restore(0), 1);
        due.is("who lives in 0", x.told(5), 14);
        due.is("LONG in 0", x.told(2), 30);
        due.is("SIGHTS in 0", x.told(6), 2);
        due.is("COLD in 0", x.told(14), 9);
    }

    private static void told() {
        HostageRound x = Due.fresh(3, 4);
        x.set(2, 0, 6);
        x.set(1, 1, 1);
        x.seen(1, true);
        due.live(x, "Bd:.", 3);
        Due.write(x, "..");
        int[] all = {2, 3, 4, 11, 2, 5, 1};
        for (int what = 0; what < all.length; what++) {
            due.is("told " + what, x.told(what), all[what]);
        }
        int[] cold = {0, 0, 6, -2, -2, -2};
        int[] coughs = {0, 1, 0, -2, -2, -2};
        for (int k = 0; k < 6; k++) {
            due.is("told " + (10 + k), x.told(10 + k), cold[k]);
            due.is("told " + (20 + k), x.told(20 + k), coughs[k]);
        }
        int[] outside = {-1, 7, 8, 9, 16, 19, 26, 30, 1000, Integer.MAX_VALUE, Integer.MIN_VALUE};
        for (int what : outside) {
            due.is("told " + what, x.told(what), -2);
        }
    }
}
