/** Promises 25 to 32: sights, who was changed with whom, hats back, marriages, deaths. */
public final class HatsMarriagesDeathsTest {
    private static final Due due = new Due();
    private static final long LOST_OUTSIDE = -1000000000000000002L;

    public static void main(String[] args) {
        seenAndForget();
        changed();
        names();
        hear();
        undo();
        marriages();
        deaths();
        due.end();
    }

    private static void rows(HostageRound x, int... rows) {
        due.is("how many rows", x.changed(-1), rows.length);
        for (int i = 0; i < rows.length; i++) {
            due.is("row " + i, x.changed(i), rows[i]);
        }
        due.is("no row behind the last", x.changed(rows.length), -6);
        due.is("no row -2", x.changed(-2), -6);
    }

    private static void seenAndForget() {
        HostageRound x = new HostageRound();
        for (int i = 1; i <= 8; i++) {
            due.is("sight " + i, x.seen(i % 4, i % 2 == 0), i);
        }
        due.is("sight 9", x.seen(0, true), -4);
        due.is("UNKNOWN before FULL", x.seen(4, true), -1);
        due.is("NAME -1", x.seen(-1, true), -1);
        due.is("sights told", x.told(6), 8);
        due.is("forget", x.forget(), 8);
        due.is("forget again", x.forget(), 0);
        due.is("all fits again", x.changed(-1), 24);
        due.live(x, "Ad", 1);
        due.is("a NAME of a dead one", x.seen(0, false), 1);
        due.is("one twice", x.seen(0, false), 2);
    }

    private static void changed() {
        HostageRound x = Due.fresh(3, 90);
        rows(x, 12, 21, 102, 120, 201, 210);
        x.set(1, 1, 1);
        rows(x, 12, 21, 102, 120, 201, 210);
        x.seen(0, true);
        rows(x, 102, 201);
        x.seen(2, false);
        rows(x, 102, 201);
        x.seen(1, true);
        rows(x);
        x.set(2, 1, 1);
        rows(x, 201, 210);
        x.seen(0, false);
        rows(x);
        x.forget();
        due.live(x, "ABBd", 2);
        // B is dead and bears A's NAME: A and C have B's and C's
        rows(x, 162, 261);
        x.seen(2, true);
        rows(x, 162);
        x.seen(0, false);
        rows(x);
        x.forget();
        due.live(x, "AdCd", 2);
        rows(x, 666);
        x.seen(1, false);
        rows(x);
    }

    private static void names() {
        HostageRound x = Due.fresh(3, 90);
        due.is("all", x.names(2), 7);
        x.set(1, 1, 1);
        x.seen(0, true);
        due.is("of B", x.names(1), 1);
        due.is("of A", x.names(0), 6);
        due.is("of C", x.names(2), 6);
        x.seen(1, true);
        due.is("of nothing", x.names(0), 0);
        x.forget();
        due.live(x, "ABBd", 2);
        due.is("without a dead one's", x.names(0), 6);
        due.is("dead", x.names(1), -1);
        due.is("no CHILD 3", x.names(3), -1);
        due.is("no CHILD -1", x.names(-1), -1);
    }

    private static void heard(HostageRound x, int name, int left) {
        due.is("hear(0)", x.hear(0), name);
        due.is("hear(1)", x.hear(1), left);
    }

    private static void hear() {
        HostageRound x = new HostageRound();
        heard(x, 0, 24);
        x.set(1, 1, 1);
        x.set(2, 1, 1);
        heard(x, 0, 12);
        x.seen(0, true);
        // 12 rows; each other NAME coughs in 4 of them
        heard(x, 1, 8);
        x.seen(1, false);
        // 8 rows; the other cougher bears 2 in half of them
        heard(x, 2, 4);
        x.seen(3, true);
        heard(x, 0, 4);
        x.seen(2, true);
        heard(x, -6, -6);
        x.forget();
        due.live(x, "AdBd", 2);
        heard(x, 2, 1);
        x.seen(0, true);
        heard(x, -6, -6);
        x.forget();
        due.live(x, "CdDd", 2);
        heard(x, -6, -6);
        due.is("hear(2)", x.hear(2), -2);
        due.is("hear(-1)", x.hear(-1), -2);
    }

    private static void undo() {
        HostageRound x = Due.fresh(6, 90);
        due.is("none", x.undo(), 0);
        due.is("one", due.live(x, "AB", 1).undo(), 1);
        due.is("two twos", due.live(x, "CD", 1).undo(), 2);
        due.is("four in a round", due.live(x, "BC", 1).undo(), 3);
        due.is("six in a round", due.live(x, "AEFB", 2).undo(), 5);
        due.is("no NAME is changed in fact", x.state(5, 1) == 5 ? 1 : 0, 0);
        due.live(x, "Ed", 1);
        due.is("a dead one has one", x.undo(), -6);
        due.live(x, "AdBdCdDdFd", 5);
        due.is("nobody lives", x.undo(), 0);
        x = Due.fresh(4, 90);
        due.is("a dead one with its own", due.live(x, "AdBC", 2).undo(), 1);
        x = Due.fresh(4, 90);
        due.is("two dead ones in each other's", due.live(x, "ABAdBd", 3).undo(), 0);
        x = Due.fresh(4, 90);
        due.is("not on a first day", due.live(x, "AB.", 2).undo(), 1);
        x.lands(4);
        due.is("all as at first", x.undo(), 0);
    }

    private static void marriages() {
        HostageRound x = new HostageRound();
        due.is("two twos", x.marriages(24), 2);
        // A 1 1 2 3, B 2 3 0 2, C 3 0 1 3, D 0 1 2 0
        due.live(x, "As", 1);
        due.is("this season alone", x.marriages(1), 2);
        due.is("A and B, C and D yet", x.marriages(24), 2);
        due.live(x, "Bd", 1);
        due.is("A and C, or C and D", x.marriages(3), 1);
        due.is("C and D", x.marriages(4), 1);
        due.live(x, "Dm", 1);
        due.is("A and C, three seasons", x.marriages(3), 1);
        due.is("A and C meet in the fourth", x.marriages(4), 0);
        due.is("m 0", x.marriages(0), -2);
        due.is("m 25", x.marriages(25), -2);
        x = Due.fresh(5, 90);
        due.is("five make two twos", x.marriages(24), 2);
        due.live(x, "AdBdCdDdEd", 5);
        due.is("nobody lives", x.marriages(1), 0);
        due.is("a round of six", Due.fresh(6, 90).marriages(24), 3);
    }

    private static void fraction(HostageRound x, int m, int t, int what, long upper, long lower) {
        due.is("upper of " + m + " " + t + " " + what, x.deaths(m, t, what, 0), upper);
        due.is("lower of " + m + " " + t + " " + what, x.deaths(m, t, what, 1), lower);
    }

    private static void deaths() {
        HostageRound x = Due.fresh(6, 90);
        fraction(x, 3, 1, 0, 150094635296999121L, 1000000000000000000L);
        fraction(x, 3, 1, 1, 2187, 500);
        fraction(x, 0, 5, 0, 1, 1);
        fraction(x, 0, 10, 1, 6, 1);
        fraction(x, 3, 0, 0, 1, 1);
        fraction(x, 3, 0, 1, 6, 1);
        fraction(x, 1, 10, 0, 0, 1);
        fraction(x, 1, 10, 1, 0, 1);
        fraction(x, 1, 4, 0, 729, 15625);
        fraction(x, 1, 4, 1, 18, 5);
        fraction(x, 2, 5, 0, 1, 4096);
        fraction(x, 2, 5, 1, 3, 2);
        due.live(x, "AdCd", 2);
        fraction(x, 1, 3, 0, 2401, 10000);
        fraction(x, 1, 3, 1, 14, 5);
        due.live(x, "BdDdEdFd", 4);
        fraction(x, 3, 10, 0, 1, 1);
        fraction(x, 3, 2, 1, 0, 1);
        int[][] outside = {{-1, 0, 0, 0}, {4, 0, 0, 0}, {0, -1, 0, 0}, {0, 11, 0, 0}, {0, 0, -1, 0}, {0, 0, 2, 0},
            {0, 0, 0, -1}, {0, 0, 0, 2}};
        for (int[] o : outside) {
            due.is("deaths outside", x.deaths(o[0], o[1], o[2], o[3]), LOST_OUTSIDE);
        }
    }
}
