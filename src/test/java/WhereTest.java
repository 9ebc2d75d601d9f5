/** Promises 13 to 16: who is where when, and when two are in one LAND. */
public final class WhereTest {
    private static final Due due = new Due();

    public static void main(String[] args) {
        where();
        who();
        meet();
        together();
        due.end();
    }

    private static void where() {
        HostageRound x = Due.fresh(6, 10);
        int[] ofC = {3, 4, 5, 0, 1, 3, 4};
        for (int e = 0; e < ofC.length; e++) {
            due.is("C first day of " + e, x.where(2, 10 * e), ofC[e]);
            due.is("C last day of " + e, x.where(2, 10 * e + 9), ofC[e]);
        }
        due.is("C on day 9999", x.where(2, 9999), ofC[999 % 5]);
        due.live(x, "...CsDmEd", 6);
        due.is("C before the equinox", x.where(2, 6), 3);
        due.is("C stays", x.where(2, 7), 3);
        due.is("C stays till then", x.where(2, 16), 3);
        due.is("C goes", x.where(2, 17), 4);
        due.is("D stays for good", x.where(3, 9999), 4);
        due.is("E is dead", x.where(4, 0), -6);
        due.is("no CHILD 6", x.where(6, -1), -1);
        due.is("no CHILD -1", x.where(-1, 0), -1);
        due.is("d -1", x.where(0, -1), -2);
        due.is("d 10000", x.where(0, 10000), -2);
        due.is("OUTSIDE of a dead one", x.where(4, 10000), -2);
    }

    private static void who() {
        HostageRound x = new HostageRound();
        due.live(x, "As", 1);
        due.is("A in 1", x.who(1, 0), 1);
        due.is("A in 1 to the last day", x.who(1, 89), 1);
        due.is("A and D in 1", x.who(1, 90), 9);
        due.is("nobody in 2", x.who(2, 90), 0);
        due.is("nobody of the dead", due.live(x, "DdBd", 2).who(1, 90), 1);
        due.is("no LAND 4", x.who(4, -1), -1);
        due.is("no LAND -1", x.who(-1, 0), -1);
        due.is("d -1", x.who(0, -1), -2);
        due.is("d 10000", x.who(0, 10000), -2);
        due.is("d 9999: season 111, A has gone 110 times", x.who(3, 9999), 5);
    }

    private static void meet() {
        HostageRound x = new HostageRound();
        due.is("never", x.meet(0, 1), -6);
        // A 1 1 2 3 1, B 2 3 0 2 3, C 3 0 1 3 0, D 0 1 2 0 1
        due.live(x, "As", 1);
        due.is("A and B", x.meet(0, 1), -6);
        due.is("A and C", x.meet(0, 2), 270);
        due.is("C and A", x.meet(2, 0), 270);
        due.is("A and D", x.meet(0, 3), 90);
        due.live(x, ".", 1);
        due.is("a day less", x.meet(0, 3), 89);
        due.live(x, ";", 1);
        due.is("at once", x.meet(3, 0), 0);
        due.live(x, "Dd", 1);
        due.is("with a dead one", x.meet(0, 3), -6);
        due.live(x, "BdCd", 2);
        due.is("two dead ones", x.meet(1, 2), -6);
        due.is("one", x.meet(2, 2), -1);
        due.is("no CHILD 4", x.meet(0, 4), -1);
        due.is("no CHILD -1", x.meet(-1, 0), -1);
    }

    private static void together() {
        HostageRound x = new HostageRound();
        due.live(x, "As.", 2);
        // From the second day of: A 1 1 2 3 1 2 3, D 0 1 2 0 1 2 0
        due.is("none of none", x.together(0, 3, 0), 0);
        due.is("none yet", x.together(0, 3, 89), 0);
        due.is("one day", x.together(0, 3, 90), 1);
        due.is("two seasons", x.together(0, 3, 269), 180);
        due.is("not in the third", x.together(0, 3, 359), 180);
        due.is("round again", x.together(3, 0, 360), 181);
        // 9999 - 89 = 9910 = 36 * 270 + 190: 180 in each round, and all of the last two seasons
        due.is("far", x.together(0, 3, 9999), 36 * 180 + 180);
        due.is("never", x.together(0, 1, 9999), 0);
        due.live(x, ";", 1);
        due.is("now", x.together(0, 3, 1), 1);
        due.is("now and on", x.together(0, 3, 100), 100);
        due.live(x, "AmDm", 2);
        due.is("for good", x.together(0, 3, 9999), 9999);
        due.live(x, "Dd", 1);
        due.is("with a dead one", x.together(0, 3, 9999), 0);
        due.is("one", x.together(0, 0, -1), -1);
        due.is("no CHILD 4", x.together(0, 4, 1), -1);
        due.is("no CHILD -1", x.together(-1, 0, 1), -1);
        due.is("d -1", x.together(0, 1, -1), -2);
        due.is("d 10000", x.together(0, 1, 10000), -2);
    }
}
