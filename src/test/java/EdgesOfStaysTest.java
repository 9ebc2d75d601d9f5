/** Promises 13 to 16: for each sentence that names an edge a test of its own. */
public final class EdgesOfStaysTest {
    private static final int NONE = -6, UNKNOWN = -1, OUTSIDE = -2;
    private static final int MIN = Integer.MIN_VALUE, MAX = Integer.MAX_VALUE;
    private static final Due due = new Due();

    public static void main(String[] args) throws IllegalAccessException {
        due.run(EdgesOfStaysTest.class, 13, 16);
        due.end();
    }

    private static HostageRound lived(String text, int acts) {
        return due.live(new HostageRound(), text, acts);
    }

    // ---- 13 where

    private static void promise13NoSuchChild() {
        due.refused("where(-1, 0)", UNKNOWN, x -> x.where(-1, 0));
        due.refused("where(5, 0)", UNKNOWN, x -> x.where(5, 0));
        due.refused("where(MIN, 0)", UNKNOWN, x -> x.where(MIN, 0));
        due.refused("where(MAX, 0)", UNKNOWN, x -> x.where(MAX, 0));
    }

    private static void promise13OneDayBelowTheLeast() {
        due.refused("where(0, -1)", OUTSIDE, x -> x.where(0, -1));
        due.refused("where(0, MIN)", OUTSIDE, x -> x.where(0, MIN));
    }

    private static void promise13OneDayAboveTheGreatest() {
        due.refused("where(0, 10000)", OUTSIDE, x -> x.where(0, 10000));
        due.refused("where(0, MAX)", OUTSIDE, x -> x.where(0, MAX));
    }

    private static void promise13UnknownComesAheadOfOutside() {
        due.refused("where(5, 10000)", UNKNOWN, x -> x.where(5, 10000));
        due.refused("where(-1, -1)", UNKNOWN, x -> x.where(-1, -1));
    }

    private static void promise13OutsideOfOneWhoIsDead() {
        due.refused("where(4, 10000)", OUTSIDE, x -> x.where(4, 10000));
        due.refused("where(4, -1)", OUTSIDE, x -> x.where(4, -1));
    }

    private static void promise13TheLeastDay() {
        HostageRound x = lived(";AsBmCd:", 5);
        for (int child = 0; child < 4; child++) {
            due.is("on day 0 " + child, x.where(child, 0), x.state(child, 0));
        }
    }

    private static void promise13TheGreatestDay() {
        // 9999 is 101 seasons of 99 days: the first day of one
        HostageRound x = Due.fresh(3, 99);
        due.is("the last day of season 100", x.where(0, 9998), 1);
        due.is("the first day of season 101", x.where(0, 9999), 2);
        x = Due.fresh(6, 1);
        due.is("9999 equinoxes, 5 a round", x.where(0, 9999), 5);
        due.is("and one less", x.where(0, 9998), 4);
    }

    private static void promise13TheLastDayOfASeason() {
        HostageRound x = Due.fresh(4, 7);
        due.is("the last day", x.where(0, 6), 1);
        due.is("the first behind it", x.where(0, 7), 2);
        due.live(x, "...", 3);
        due.is("the last day in three days less", x.where(0, 3), 1);
        due.is("the first behind it", x.where(0, 4), 2);
    }

    private static void promise13BehindTheLastLandComesTheFirst() {
        HostageRound x = new HostageRound();
        due.is("B in 3", x.where(1, 90), 3);
        due.is("B in 0", x.where(1, 180), 0);
    }

    private static void promise13PastItsOwnLand() {
        HostageRound x = new HostageRound();
        due.is("B in 0", x.where(1, 269), 0);
        due.is("B goes past 1", x.where(1, 270), 2);
        due.is("A in the last LAND", x.where(0, 269), 3);
        due.is("A goes past the first", x.where(0, 270), 1);
        due.is("D in the last LAND but one", x.where(3, 269), 2);
        due.is("D goes past the last", x.where(3, 270), 0);
    }

    private static void promise13NeverInItsOwnLand() {
        for (int n = 3; n <= 6; n++) {
            HostageRound x = due.live(Due.fresh(n, 2), "As.BmCs", 4);
            for (int d = 0; d < 30; d++) {
                for (int child = 0; child < n; child++) {
                    due.holds(child + " of " + n + " on " + d, x.where(child, d) != child && x.where(child, d) >= 0);
                }
            }
        }
    }

    private static void promise13OneWhoIsDead() {
        HostageRound x = lived("Ad", 1);
        due.is("now", x.where(0, 0), NONE);
        due.is("on the last day", x.where(0, 9999), NONE);
    }

    private static void promise13OneWhoStays() {
        HostageRound x = lived(".As", 2);
        due.is("the last day of this season", x.where(0, 88), 1);
        due.is("the first of the next", x.where(0, 89), 1);
        due.is("the last of the next", x.where(0, 178), 1);
        due.is("he goes", x.where(0, 179), 2);
        due.is("and goes on", x.where(0, 269), 3);
    }

    private static void promise13OneWhoIsMarried() {
        HostageRound x = lived(";Am", 2);
        due.is("now", x.where(0, 0), 2);
        due.is("on the last day", x.where(0, 9999), 2);
    }

    private static void promise13NothingElseHappensFromNowOn() {
        HostageRound x = Due.write(new HostageRound(), "As;Bd");
        due.is("A goes, whatever is on the PAD", x.where(0, 90), 2);
        due.is("B, too", x.where(1, 90), 3);
    }

    // ---- 14 who

    private static void promise14NoSuchLand() {
        due.refused("who(-1, 0)", UNKNOWN, x -> x.who(-1, 0));
        due.refused("who(5, 0)", UNKNOWN, x -> x.who(5, 0));
        due.refused("who(MIN, 0)", UNKNOWN, x -> x.who(MIN, 0));
        due.refused("who(MAX, 0)", UNKNOWN, x -> x.who(MAX, 0));
    }

    private static void promise14OneDayBelowTheLeast() {
        due.refused("who(0, -1)", OUTSIDE, x -> x.who(0, -1));
        due.refused("who(0, MIN)", OUTSIDE, x -> x.who(0, MIN));
    }

    private static void promise14OneDayAboveTheGreatest() {
        due.refused("who(0, 10000)", OUTSIDE, x -> x.who(0, 10000));
        due.refused("who(0, MAX)", OUTSIDE, x -> x.who(0, MAX));
    }

    private static void promise14UnknownComesAheadOfOutside() {
        due.refused("who(5, 10000)", UNKNOWN, x -> x.who(5, 10000));
        due.refused("who(-1, -1)", UNKNOWN, x -> x.who(-1, -1));
    }

    private static void promise14TheFirstAndTheLastLand() {
        for (int n = 3; n <= 6; n++) {
            HostageRound x = Due.fresh(n, 90);
            due.is("the last CHILD in 0 of " + n, x.who(0, 0), 1 << n - 1);
            due.is("the last but one in the last LAND", x.who(n - 1, 0), 1 << n - 2);
            due.is("none behind it", x.who(n, 0), UNKNOWN);
        }
    }

    private static void promise14TheLeastAndTheGreatestDay() {
        HostageRound x = Due.fresh(3, 99);
        due.is("A in 1 now", x.who(1, 0), 1);
        due.is("A in 1 in season 100", x.who(1, 9998), 1);
        due.is("C in 1 in season 101", x.who(1, 9999), 4);
        due.is("A in 2 in season 101", x.who(2, 9999), 1);
    }

    private static void promise14TheLastDayOfASeason() {
        HostageRound x = lived("::", 2);
        due.is("the last day", x.who(1, 69), 1);
        due.is("the first behind it", x.who(1, 70), 8);
    }

    private static void promise14NobodyIsThere() {
        HostageRound x = lived("As", 1);
        due.is("in 2, the last day that B is there", x.who(2, 89), 2);
        due.is("in 2, the next season", x.who(2, 90), 0);
    }

    private static void promise14TheDeadAreNowhere() {
        HostageRound x = lived("AdBdCd", 3);
        for (int land = 1; land < 4; land++) {
            due.is("in " + land, x.who(land, 0), 0);
        }
        due.is("D in 0", x.who(0, 0), 8);
        due.live(x, "Dd", 1);
        due.is("nobody in 0", x.who(0, 9999), 0);
    }

    private static void promise14AllButItsOwnAreThere() {
        // A is married in 1, C (0 1 0) in 1 behind an equinox
        HostageRound x = due.live(Due.fresh(3, 90), "Am", 1);
        due.is("both in 1", x.who(1, 90), 5);
        due.is("one in 1", x.who(1, 180), 1);
    }

    // ---- 15 meet

    private static void promise15NoSuchChild() {
        due.refused("meet(-1, 0)", UNKNOWN, x -> x.meet(-1, 0));
        due.refused("meet(0, -1)", UNKNOWN, x -> x.meet(0, -1));
        due.refused("meet(5, 0)", UNKNOWN, x -> x.meet(5, 0));
        due.refused("meet(0, 5)", UNKNOWN, x -> x.meet(0, 5));
        due.refused("meet(MIN, 0)", UNKNOWN, x -> x.meet(MIN, 0));
        due.refused("meet(0, MAX)", UNKNOWN, x -> x.meet(0, MAX));
        due.refused("meet(5, 5)", UNKNOWN, x -> x.meet(5, 5));
    }

    private static void promise15AlsoOne() {
        due.refused("meet(0, 0)", UNKNOWN, x -> x.meet(0, 0));
        due.refused("meet(3, 3)", UNKNOWN, x -> x.meet(3, 3));
        due.refused("meet(4, 4), dead", UNKNOWN, x -> x.meet(4, 4));
    }

    private static void promise15TheFirstAndTheLastChild() {
        for (int n = 3; n <= 6; n++) {
            HostageRound x = Due.fresh(n, 90);
            due.is("never, of " + n, x.meet(0, n - 1), NONE);
            due.is("none behind the last, of " + n, x.meet(0, n), UNKNOWN);
            // A waits in 1, where the last of them comes to
            due.live(x, "As", 1);
            due.is("at the next equinox, of " + n, x.meet(n - 1, 0), 90);
        }
    }

    private static void promise15OnDayNought() {
        HostageRound x = lived("As;", 2);
        due.is("A and D", x.meet(0, 3), 0);
        due.is("D and A", x.meet(3, 0), 0);
    }

    private static void promise15OnTheLastDayTogether() {
        HostageRound x = due.live(Due.fresh(4, 5), "As;As;....", 8);
        // A 1 1 1 2, D 0 1 2 0, C 3 0 1 3: in 1 A and C
        due.is("A and C", x.meet(0, 2), 0);
        due.live(x, ".", 1);
        // from here on A 2 3 1, B 2 3 0, C 3 0 1
        due.is("behind it A and B", x.meet(0, 1), 0);
        due.is("A and C two seasons later", x.meet(0, 2), 10);
    }

    private static void promise15Never() {
        HostageRound x = new HostageRound();
        for (int one = 0; one < 4; one++) {
            for (int other = 0; other < 4; other++) {
                due.is("of " + one + " and " + other, x.meet(one, other), one == other ? UNKNOWN : NONE);
            }
        }
    }

    private static void promise15OneWhoIsDead() {
        HostageRound x = lived("As;Ad", 3);
        due.is("a dead one", x.meet(0, 3), NONE);
        due.is("another with it", x.meet(3, 0), NONE);
        due.live(x, "Dd", 1);
        due.is("two dead ones, both nowhere", x.meet(0, 3), NONE);
    }

    private static void promise15OneWhoIsMarried() {
        HostageRound x = lived("Am", 1);
        due.is("D comes next", x.meet(0, 3), 90);
        due.is("C comes then", x.meet(0, 2), 180);
        due.is("B never comes to its own LAND", x.meet(0, 1), NONE);
    }

    private static void promise15BothAreMarried() {
        HostageRound x = lived("Am;Dm", 3);
        due.is("in one LAND", x.meet(0, 3), 0);
        x = lived("AmDm", 2);
        due.is("in two LANDS", x.meet(0, 3), NONE);
    }

    private static void promise15DayByDayTheEquinoxComesNearer() {
        HostageRound x = due.live(Due.fresh(4, 4), "As", 1);
        for (int left = 4; left > 0; left--) {
            due.is("days to A and D", x.meet(0, 3), left);
            due.live(x, ".", 1);
        }
        due.is("A and D", x.meet(0, 3), 0);
    }

    private static void promise15TheLastSeasonOfARound() {
        // A 1 1 2 3 4 5, E 5 0 1 2 3 5
        HostageRound x = due.live(Due.fresh(6, 99), "As", 1);
        due.is("A and E", x.meet(0, 4), 495);
        due.is("A and F", x.meet(0, 5), 99);
        due.live(x, ".", 1);
        due.is("A and E, a day less", x.meet(0, 4), 494);
    }

    // ---- 16 together

    private static void promise16NoSuchChild() {
        due.refused("together(-1, 0, 1)", UNKNOWN, x -> x.together(-1, 0, 1));
        due.refused("together(0, -1, 1)", UNKNOWN, x -> x.together(0, -1, 1));
        due.refused("together(5, 0, 1)", UNKNOWN, x -> x.together(5, 0, 1));
        due.refused("together(0, 5, 1)", UNKNOWN, x -> x.together(0, 5, 1));
        due.refused("together(MIN, 0, 1)", UNKNOWN, x -> x.together(MIN, 0, 1));
        due.refused("together(0, MAX, 1)", UNKNOWN, x -> x.together(0, MAX, 1));
    }

    private static void promise16AlsoOne() {
        due.refused("together(0, 0, 1)", UNKNOWN, x -> x.together(0, 0, 1));
        due.refused("together(3, 3, 9999)", UNKNOWN, x -> x.together(3, 3, 9999));
    }

    private static void promise16OneDayBelowTheLeast() {
        due.refused("together(0, 1, -1)", OUTSIDE, x -> x.together(0, 1, -1));
        due.refused("together(0, 1, MIN)", OUTSIDE, x -> x.together(0, 1, MIN));
    }

    private static void promise16OneDayAboveTheGreatest() {
        due.refused("together(0, 1, 10000)", OUTSIDE, x -> x.together(0, 1, 10000));
        due.refused("together(0, 1, MAX)", OUTSIDE, x -> x.together(0, 1, MAX));
    }

    private static void promise16UnknownComesAheadOfOutside() {
        due.refused("together(0, 5, -1)", UNKNOWN, x -> x.together(0, 5, -1));
        due.refused("together(-1, 0, 10000)", UNKNOWN, x -> x.together(-1, 0, 10000));
        due.refused("together(2, 2, -1)", UNKNOWN, x -> x.together(2, 2, -1));
    }

    private static void promise16OutsideOfOneWhoIsDead() {
        due.refused("together(0, 4, -1)", OUTSIDE, x -> x.together(0, 4, -1));
    }

    private static void promise16TheLeast() {
        HostageRound x = lived("As;", 2);
        due.is("on no day", x.together(0, 3, 0), 0);
        due.is("on day 0", x.together(0, 3, 1), 1);
    }

    private static void promise16TheGreatest() {
        due.is("for good", lived("Am;Dm", 3).together(0, 3, 9999), 9999);
        // A 1 1 2 1 2, C 0 1 0 1: on the days 1, 3, 5 .. 9997 of 0 to 9998
        HostageRound x = due.live(Due.fresh(3, 1), "As", 1);
        due.is("every other day", x.together(0, 2, 9999), 4999);
        due.is("a day less", x.together(0, 2, 9998), 4999);
        due.is("two days less", x.together(0, 2, 9997), 4998);
    }

    private static void promise16DayDIsNotOneOfThem() {
        HostageRound x = lived("As", 1);
        due.is("till the equinox", x.together(0, 3, 90), 0);
        due.is("and the day behind it", x.together(0, 3, 91), 1);
    }

    private static void promise16TheLastDayOfASeason() {
        HostageRound x = due.live(Due.fresh(3, 5), "As", 1);
        // A 1 1 2 1 2, C 0 1 0 1 0
        int[] days = {0, 0, 0, 0, 0, 0, 1, 2, 3, 4, 5, 5, 5, 5, 5, 5, 6, 7, 8, 9, 10, 10};
        for (int d = 0; d < days.length; d++) {
            due.is("of the days ahead of " + d, x.together(0, 2, d), days[d]);
        }
    }

    private static void promise16FromWithinASeason() {
        HostageRound x = due.live(Due.fresh(3, 5), "As;..", 4);
        // three days more of the season in which both are in 1, then five apart
        int[] days = {0, 1, 2, 3, 3, 3, 3, 3, 3, 4, 5, 6, 7, 8, 8};
        for (int d = 0; d < days.length; d++) {
            due.is("of the days ahead of " + d, x.together(0, 2, d), days[d]);
        }
    }

    private static void promise16Never() {
        due.is("A and B", new HostageRound().together(0, 1, 9999), 0);
    }

    private static void promise16OneWhoIsDead() {
        HostageRound x = lived("As;Ad", 3);
        due.is("a dead one", x.together(0, 3, 9999), 0);
        due.live(x, "Dd", 1);
        due.is("two dead ones, both nowhere", x.together(0, 3, 9999), 0);
    }

    private static void promise16EitherComesFirst() {
        HostageRound x = lived("As", 1);
        due.is("A and D", x.together(0, 3, 200), 110);
        due.is("D and A", x.together(3, 0, 200), 110);
    }
}
