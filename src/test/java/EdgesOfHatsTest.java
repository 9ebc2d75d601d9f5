/** Promises 25 to 33: for each sentence that names an edge a test of its own. */
public final class EdgesOfHatsTest {
    private static final int NONE = -6, UNKNOWN = -1, OUTSIDE = -2, FULL = -4;
    private static final long LOST = -1000000000000000000L;
    private static final int MIN = Integer.MIN_VALUE, MAX = Integer.MAX_VALUE;
    private static final Due due = new Due();

    public static void main(String[] args) throws IllegalAccessException {
        due.run(EdgesOfHatsTest.class, 25, 33);
        due.end();
    }

    private static HostageRound lived(int lands, String text, int acts) {
        return due.live(Due.fresh(lands, 90), text, acts);
    }

    private static void sights(HostageRound x, int many) {
        x.forget();
        for (int i = 0; i < many; i++) {
            x.seen(i % 3, i % 2 == 0);
        }
    }

    private static void rows(HostageRound x, int... rows) {
        due.is("changed(-1)", x.changed(-1), rows.length);
        for (int i = 0; i < rows.length; i++) {
            due.is("changed(" + i + ")", x.changed(i), rows[i]);
        }
        due.is("changed(" + rows.length + "), behind the last", x.changed(rows.length), NONE);
    }

    private static void heard(HostageRound x, int name, int left) {
        due.is("hear(0)", x.hear(0), name);
        due.is("hear(1)", x.hear(1), left);
    }

    private static void fraction(HostageRound x, int m, int t, int what, long upper, long lower) {
        String call = "deaths(" + m + ", " + t + ", " + what + ", ";
        due.is(call + "0)", x.deaths(m, t, what, 0), upper);
        due.is(call + "1)", x.deaths(m, t, what, 1), lower);
    }

    private static void drawn(HostageRound x, int seed, int m, int days, int names, int empty) {
        String call = "year(" + seed + ", " + m + ", ";
        due.is(call + "0)", x.year(seed, m, 0), days);
        due.is(call + "1)", x.year(seed, m, 1), names);
        due.is(call + "2)", x.year(seed, m, 2), empty);
    }

    // ---- 25 seen

    private static void promise25NoSuchName() {
        due.refused("seen(-1, true)", UNKNOWN, x -> x.seen(-1, true));
        due.refused("seen(5, false)", UNKNOWN, x -> x.seen(5, false));
        due.refused("seen(MIN, true)", UNKNOWN, x -> x.seen(MIN, true));
        due.refused("seen(MAX, true)", UNKNOWN, x -> x.seen(MAX, true));
    }

    private static void promise25TheFirstAndTheLastName() {
        for (int n = 3; n <= 6; n++) {
            HostageRound x = Due.fresh(n, 90);
            due.is("the first of " + n, x.seen(0, true), 1);
            due.is("the last of " + n, x.seen(n - 1, true), 2);
            due.is("none behind it", x.seen(n, true), UNKNOWN);
            due.is("SIGHTS", x.told(6), 2);
        }
    }

    private static void promise25TheEighthIsTheLast() {
        HostageRound x = new HostageRound();
        sights(x, 7);
        due.is("the eighth", x.seen(3, true), 8);
        due.is("one more", x.seen(3, true), FULL);
        due.is("SIGHTS", x.told(6), 8);
    }

    private static void promise25TheEighthIsASightToo() {
        HostageRound x = new HostageRound();
        x.set(1, 1, 1);
        for (int i = 0; i < 7; i++) {
            x.seen(0, false);
        }
        due.is("NAME 0 is B's in none", x.changed(-1), 18);
        x.seen(2, true);
        due.is("NAME 2 is B's in all", x.changed(-1), 6);
    }

    private static void promise25FullSightsAreNotChanged() {
        due.refused("seen(0, true)", FULL, x -> sights(x, 8), x -> x.seen(0, true));
        due.refused("seen(4, false)", FULL, x -> sights(x, 8), x -> x.seen(4, false));
    }

    private static void promise25UnknownComesAheadOfFull() {
        due.refused("seen(5, true)", UNKNOWN, x -> sights(x, 8), x -> x.seen(5, true));
        due.refused("seen(-1, false)", UNKNOWN, x -> sights(x, 8), x -> x.seen(-1, false));
    }

    private static void promise25OneTwiceIsTwo() {
        HostageRound x = new HostageRound();
        due.is("once", x.seen(2, false), 1);
        due.is("twice", x.seen(2, false), 2);
        due.is("all rows fit yet", x.changed(-1), 24);
    }

    private static void promise25ANameThatADeadOneBears() {
        HostageRound x = lived(4, "Ad", 1);
        due.is("a SIGHT", x.seen(0, false), 1);
        due.is("that can not be", x.changed(-1), 0);
    }

    // ---- 26 forget

    private static void promise26NoSights() {
        HostageRound x = new HostageRound();
        due.is("forget", x.forget(), 0);
        due.is("forget again", x.forget(), 0);
    }

    private static void promise26AllEight() {
        HostageRound x = new HostageRound();
        sights(x, 8);
        due.is("forget", x.forget(), 8);
        due.is("SIGHTS", x.told(6), 0);
        due.is("all rows fit", x.changed(-1), 24);
        due.is("a SIGHT again", x.seen(0, true), 1);
    }

    private static void promise26NothingElseGoes() {
        HostageRound x = Looks.busy();
        due.is("forget", x.forget(), 2);
        due.is("whether B COUGHS", x.told(21), 1);
        due.is("signs", x.told(0), 6);
        due.is("the IMAGE", x.restore(1), 1);
        due.is("SIGHTS of the IMAGE", x.told(6), 2);
    }

    // ---- 27 changed

    private static void promise27HowMany() {
        int[] rows = {6, 24, 120, 720};
        for (int n = 3; n <= 6; n++) {
            due.is("of " + n, Due.fresh(n, 90).changed(-1), rows[n - 3]);
        }
    }

    private static void promise27BelowMinusOne() {
        HostageRound x = new HostageRound();
        due.is("changed(-2)", x.changed(-2), NONE);
        due.is("changed(-24)", x.changed(-24), NONE);
        due.is("changed(MIN)", x.changed(MIN), NONE);
    }

    private static void promise27TheFirstAndTheLast() {
        HostageRound x = Due.fresh(6, 90);
        due.is("the first", x.changed(0), 12345);
        due.is("the second", x.changed(1), 12354);
        due.is("the last", x.changed(719), 543210);
        due.is("behind the last", x.changed(720), NONE);
        due.is("changed(MAX)", x.changed(MAX), NONE);
    }

    private static void promise27Rising() {
        for (int n = 3; n <= 6; n++) {
            HostageRound x = Due.fresh(n, 90);
            int many = Math.min(400, x.changed(-1));
            for (int i = 1; i < many; i++) {
                due.holds("row " + i + " of " + n + " is above that ahead of it", x.changed(i) > x.changed(i - 1));
                if (i % 200 == 0) {
                    x = Due.fresh(n, 90);
                }
            }
        }
    }

    private static void promise27NothingFits() {
        HostageRound x = new HostageRound();
        x.seen(0, true);
        rows(x);
        due.is("changed(MAX)", x.changed(MAX), NONE);
    }

    private static void promise27TwoSightsOfOneNameThatAreNotOne() {
        HostageRound x = new HostageRound();
        x.set(0, 1, 1);
        x.seen(2, true);
        due.is("A bears it", x.changed(-1), 6);
        x.seen(2, false);
        rows(x);
    }

    private static void promise27MoreCoughedThanCough() {
        HostageRound x = Due.fresh(3, 90);
        x.set(0, 1, 1);
        x.seen(1, true);
        rows(x, 102, 120);
        x.seen(2, true);
        rows(x);
    }

    private static void promise27AllCough() {
        HostageRound x = Due.fresh(3, 90);
        x.set(0, 1, 1);
        x.set(1, 1, 1);
        x.set(2, 1, 1);
        x.seen(1, true);
        rows(x, 12, 21, 102, 120, 201, 210);
        x.seen(0, false);
        rows(x);
    }

    private static void promise27SixForTheDead() {
        rows(lived(3, "Ad", 1), 612, 621);
        rows(lived(3, "Bd", 1), 62, 260);
        rows(lived(3, "AdBdCd", 3), 666);
    }

    private static void promise27OneLives() {
        rows(lived(3, "AdCd", 2), 616);
        rows(lived(3, "ABAdCd", 3), 606);
    }

    private static void promise27NobodyLives() {
        HostageRound x = lived(6, "AdBdCdDdEdFd", 6);
        rows(x, 666666);
        x.seen(0, false);
        rows(x);
    }

    private static void promise27OfANameThatADeadOneBearsNoSightIsSo() {
        // B is dead and bears A's NAME, A bears B's
        HostageRound x = lived(3, "ABBd", 2);
        rows(x, 162, 261);
        x.seen(1, false);
        rows(x, 162, 261);
        x.seen(0, false);
        rows(x);
        x.forget();
        x.set(1, 1, 1);
        x.seen(0, true);
        rows(x);
    }

    private static void promise27CoughsOfNow() {
        HostageRound x = Due.fresh(3, 90);
        x.seen(0, true);
        rows(x);
        x.set(2, 1, 1);
        rows(x, 120, 210);
    }

    private static void promise27WhatWasAskedAheadDoesNotCount() {
        HostageRound x = Due.fresh(3, 90);
        x.seen(0, true);
        rows(x);
        x.seen(0, false);
        rows(x);
        x.forget();
        rows(x, 12, 21, 102, 120, 201, 210);
        x.set(0, 1, 1);
        x.seen(1, true);
        rows(x, 102, 120);
        x.forget();
        rows(x, 12, 21, 102, 120, 201, 210);
        due.live(x, "Ad", 1);
        rows(x, 612, 621);
        due.is("NAMES of B", x.names(1), 6);
        heard(x, 1, 2);
    }

    private static void promise27WhatTheyBearIsNotAsked() {
        HostageRound x = lived(3, "AC", 1);
        rows(x, 12, 21, 102, 120, 201, 210);
    }

    // ---- 28 names

    private static void promise28NoSuchChild() {
        due.refused("names(-1)", UNKNOWN, x -> x.names(-1));
        due.refused("names(5)", UNKNOWN, x -> x.names(5));
        due.refused("names(MIN)", UNKNOWN, x -> x.names(MIN));
        due.refused("names(MAX)", UNKNOWN, x -> x.names(MAX));
    }

    private static void promise28OneWhoIsDead() {
        due.refused("names(4), dead", UNKNOWN, x -> x.names(4));
        HostageRound x = lived(3, "AdBdCd", 3);
        for (int child = 0; child < 3; child++) {
            due.is("nobody lives, " + child, x.names(child), UNKNOWN);
        }
    }

    private static void promise28TheFirstAndTheLastChild() {
        for (int n = 3; n <= 6; n++) {
            HostageRound x = Due.fresh(n, 90);
            due.is("the first of " + n, x.names(0), (1 << n) - 1);
            due.is("the last of " + n, x.names(n - 1), (1 << n) - 1);
            due.is("none behind it", x.names(n), UNKNOWN);
        }
    }

    private static void promise28NothingFits() {
        HostageRound x = new HostageRound();
        x.seen(0, true);
        due.is("of A", x.names(0), 0);
        due.is("of D", x.names(3), 0);
    }

    private static void promise28InSome() {
        // B and D cough, E is dead: NAME 1 coughed, NAME 2 did not
        HostageRound x = Looks.busy();
        due.is("of A", x.names(0), 1 + 4 + 8);
        due.is("of B", x.names(1), 1 + 2 + 8);
        due.is("of C", x.names(2), 1 + 4 + 8);
        due.is("of D", x.names(3), 1 + 2 + 8);
    }

    private static void promise28OneNameAlone() {
        HostageRound x = Due.fresh(3, 90);
        x.set(1, 1, 1);
        x.seen(2, true);
        due.is("of who coughs", x.names(1), 4);
        due.is("of another", x.names(0), 3);
    }

    private static void promise28OneLives() {
        due.is("C bears A's", lived(3, "ACAdBd", 3).names(2), 1);
    }

    // ---- 29 hear

    private static void promise29WhatIsOutside() {
        due.refused("hear(-1)", OUTSIDE, x -> x.hear(-1));
        due.refused("hear(2)", OUTSIDE, x -> x.hear(2));
        due.refused("hear(MIN)", OUTSIDE, x -> x.hear(MIN));
        due.refused("hear(MAX)", OUTSIDE, x -> x.hear(MAX));
    }

    private static void promise29NothingFits() {
        HostageRound x = new HostageRound();
        x.seen(0, true);
        heard(x, NONE, NONE);
        due.is("hear(2)", x.hear(2), OUTSIDE);
    }

    private static void promise29NobodyLives() {
        HostageRound x = lived(3, "AdBdCd", 3);
        heard(x, NONE, NONE);
        due.is("hear(2)", x.hear(2), OUTSIDE);
    }

    private static void promise29OneLives() {
        heard(lived(3, "AdBd", 2), 2, 1);
        heard(lived(3, "ACAdBd", 3), 0, 1);
    }

    private static void promise29TheLeastOfSome() {
        heard(new HostageRound(), 0, 24);
        HostageRound x = new HostageRound();
        x.set(3, 1, 1);
        heard(x, 0, 18);
        x.set(0, 1, 1);
        heard(x, 0, 12);
    }

    private static void promise29OneThatWasHeardTellsNoMore() {
        HostageRound x = new HostageRound();
        x.set(3, 1, 1);
        x.set(0, 1, 1);
        x.seen(0, true);
        // 12 rows; each of the others coughs in four of them
        heard(x, 1, 8);
        x.seen(1, true);
        // four rows; neither of the others coughs in one
        heard(x, 0, 4);
    }

    private static void promise29ANameThatADeadOneBearsIsNotHeard() {
        HostageRound x = lived(3, "Ad", 1);
        heard(x, 1, 2);
        x.set(1, 1, 1);
        heard(x, 1, 1);
        x = lived(3, "ABAd", 2);
        heard(x, 0, 2);
    }

    private static void promise29AllRowsAreLeftAtTheMost() {
        HostageRound x = Due.fresh(3, 90);
        x.set(0, 1, 1);
        x.set(1, 1, 1);
        x.set(2, 1, 1);
        heard(x, 0, 6);
    }

    private static void promise29NoSightIsAdded() {
        HostageRound x = Looks.busy();
        HostageRound untouched = Looks.busy();
        heard(x, 0, 4);
        Looks.compare(due, "hear", x, untouched);
    }

    // ---- 30 undo

    private static void promise30Nothing() {
        for (int n = 3; n <= 6; n++) {
            due.is("of " + n, Due.fresh(n, 90).undo(), 0);
        }
    }

    private static void promise30TheMost() {
        due.is("of three", lived(3, "ABBC", 2).undo(), 2);
        due.is("of six", lived(6, "ABBCCDDEEF", 5).undo(), 5);
    }

    private static void promise30AsManyAsNotMoreThanNeedBe() {
        due.is("there and back", lived(4, "ABABAB", 3).undo(), 1);
        due.is("three twos of six", lived(6, "ABCDEF", 3).undo(), 3);
        due.is("three of them in a ring", lived(6, "ABBCCA", 3).undo(), 1);
    }

    private static void promise30SomeOwnNameIsBorneByADeadOne() {
        due.is("of the first", lived(4, "ABBd", 2).undo(), NONE);
        due.is("of another", lived(4, "ABAd", 2).undo(), NONE);
        due.is("of the last", lived(4, "CDCd", 2).undo(), NONE);
    }

    private static void promise30TheNameOfADeadOneIsBorneByADeadOne() {
        due.is("its own", lived(4, "AdBC", 2).undo(), 1);
        due.is("two of them, each other's", lived(4, "ABAdBdCD", 4).undo(), 1);
    }

    private static void promise30NobodyLives() {
        due.is("with their own", lived(3, "AdBdCd", 3).undo(), 0);
        due.is("with others'", lived(3, "ABBCAdBdCd", 5).undo(), 0);
    }

    private static void promise30AskedAgain() {
        HostageRound x = lived(6, "ABBCDE", 3);
        due.is("undo", x.undo(), 3);
        due.is("undo again", x.undo(), 3);
        Due.write(x, "AB").day();
        due.is("undo behind a look at YEARS", x.undo(), 3);
    }

    private static void promise30NothingIsDone() {
        HostageRound x = Looks.busy();
        HostageRound untouched = Looks.busy();
        due.is("undo", x.undo(), 1);
        Looks.compare(due, "undo", x, untouched);
    }

    // ---- 31 marriages

    private static void promise31OneSeasonBelowTheLeast() {
        due.refused("marriages(0)", OUTSIDE, x -> x.marriages(0));
        due.refused("marriages(-1)", OUTSIDE, x -> x.marriages(-1));
        due.refused("marriages(MIN)", OUTSIDE, x -> x.marriages(MIN));
    }

    private static void promise31OneSeasonAboveTheGreatest() {
        due.refused("marriages(25)", OUTSIDE, x -> x.marriages(25));
        due.refused("marriages(MAX)", OUTSIDE, x -> x.marriages(MAX));
    }

    private static void promise31TheMostTwos() {
        int[] twos = {1, 2, 2, 3};
        for (int n = 3; n <= 6; n++) {
            due.is("in one season, of " + n, Due.fresh(n, 90).marriages(1), twos[n - 3]);
            due.is("in all of them, of " + n, Due.fresh(n, 90).marriages(24), twos[n - 3]);
        }
    }

    private static void promise31NobodyInTwo() {
        // A and D stay: A and B may, B and C, A and D; not A and C, B and D, C and D
        due.is("A and D, B and C", lived(4, "AsDs", 2).marriages(24), 2);
        due.is("B lives no more: A and D", lived(4, "AsDsBd", 3).marriages(24), 1);
        due.is("A lives no more: B and C", lived(4, "AsDsAd", 3).marriages(24), 1);
        due.is("A and B live no more", lived(4, "AsDsAdBd", 4).marriages(24), 0);
    }

    private static void promise31ThisSeasonIsOneOfThem() {
        HostageRound x = lived(4, "As;BdCd", 4);
        due.is("A and D are in 1", x.marriages(1), 0);
    }

    private static void promise31TheNextSeasonIsTheSecond() {
        HostageRound x = lived(4, "AsBdCd", 3);
        due.is("A and D are not in one yet", x.marriages(1), 1);
        due.is("in the next they are", x.marriages(2), 0);
    }

    private static void promise31TheLastSeasonOfARound() {
        // A 1 1 2 3 4 5, E 5 0 1 2 3 5
        HostageRound x = lived(6, "AsBdCdDdFd", 5);
        due.is("five seasons", x.marriages(5), 1);
        due.is("six of them", x.marriages(6), 0);
        due.is("all of them", x.marriages(24), 0);
    }

    private static void promise31OneWhoIsMarriedMayNot() {
        due.is("both", lived(3, "AmBmCd", 3).marriages(1), 0);
        due.is("one", lived(3, "AmCd", 2).marriages(1), 0);
        due.is("none", lived(3, "Cd", 1).marriages(1), 1);
    }

    private static void promise31OneWhoStaysMay() {
        due.is("both", lived(3, "AsBsCd", 3).marriages(1), 1);
    }

    private static void promise31OneLivesOrNobody() {
        due.is("one lives", lived(3, "AdBd", 2).marriages(1), 0);
        due.is("nobody lives", lived(3, "AdBdCd", 3).marriages(24), 0);
    }

    private static void promise31NobodyIsMarriedByIt() {
        HostageRound x = Looks.busy();
        HostageRound untouched = Looks.busy();
        // A in 4, B and C in 0; D is married, E dead
        due.is("marriages", x.marriages(1), 1);
        Looks.compare(due, "marriages", x, untouched);
    }

    // ---- 32 deaths

    private static void promise32OneSeasonBelowTheLeast() {
        due.refused("deaths(-1, 0, 0, 0)", LOST + OUTSIDE, x -> x.deaths(-1, 0, 0, 0));
        due.refused("deaths(MIN, 0, 0, 0)", LOST + OUTSIDE, x -> x.deaths(MIN, 0, 0, 0));
    }

    private static void promise32OneSeasonAboveTheGreatest() {
        due.refused("deaths(4, 0, 0, 0)", LOST + OUTSIDE, x -> x.deaths(4, 0, 0, 0));
        due.refused("deaths(MAX, 0, 0, 0)", LOST + OUTSIDE, x -> x.deaths(MAX, 0, 0, 0));
    }

    private static void promise32OneTenthBelowTheLeast() {
        due.refused("deaths(0, -1, 0, 0)", LOST + OUTSIDE, x -> x.deaths(0, -1, 0, 0));
        due.refused("deaths(0, MIN, 0, 0)", LOST + OUTSIDE, x -> x.deaths(0, MIN, 0, 0));
    }

    private static void promise32OneTenthAboveTheGreatest() {
        due.refused("deaths(0, 11, 0, 0)", LOST + OUTSIDE, x -> x.deaths(0, 11, 0, 0));
        due.refused("deaths(0, MAX, 0, 0)", LOST + OUTSIDE, x -> x.deaths(0, MAX, 0, 0));
    }

    private static void promise32WhatIsOutside() {
        due.refused("deaths(0, 0, -1, 0)", LOST + OUTSIDE, x -> x.deaths(0, 0, -1, 0));
        due.refused("deaths(0, 0, 2, 0)", LOST + OUTSIDE, x -> x.deaths(0, 0, 2, 0));
    }

    private static void promise32PartIsOutside() {
        due.refused("deaths(0, 0, 0, -1)", LOST + OUTSIDE, x -> x.deaths(0, 0, 0, -1));
        due.refused("deaths(0, 0, 0, 2)", LOST + OUTSIDE, x -> x.deaths(0, 0, 0, 2));
    }

    private static void promise32LostAndTheRefusal() {
        due.is("deaths(4, 11, 2, 2)", new HostageRound().deaths(4, 11, 2, 2), -1000000000000000002L);
    }

    private static void promise32NoSeason() {
        HostageRound x = new HostageRound();
        fraction(x, 0, 0, 0, 1, 1);
        fraction(x, 0, 10, 0, 1, 1);
        fraction(x, 0, 0, 1, 4, 1);
        fraction(x, 0, 10, 1, 4, 1);
    }

    private static void promise32TheMostSeasons() {
        HostageRound x = Due.fresh(3, 90);
        // nine times 3 by 10
        fraction(x, 3, 7, 0, 19683, 1000000000);
        fraction(x, 3, 7, 1, 81, 1000);
    }

    private static void promise32NobodyEverDies() {
        HostageRound x = new HostageRound();
        fraction(x, 3, 0, 0, 1, 1);
        fraction(x, 3, 0, 1, 4, 1);
    }

    private static void promise32AllDie() {
        HostageRound x = new HostageRound();
        fraction(x, 1, 10, 0, 0, 1);
        fraction(x, 3, 10, 1, 0, 1);
    }

    private static void promise32TheGreatestNumbers() {
        HostageRound x = Due.fresh(6, 90);
        fraction(x, 3, 1, 0, 150094635296999121L, 1000000000000000000L);
        fraction(x, 3, 9, 0, 1, 1000000000000000000L);
        fraction(x, 3, 3, 0, 1628413597910449L, 1000000000000000000L);
    }

    private static void promise32LowestTerms() {
        HostageRound x = Due.fresh(6, 90);
        fraction(x, 1, 5, 1, 3, 1);
        fraction(x, 1, 9, 1, 3, 5);
        fraction(x, 1, 8, 0, 1, 15625);
        fraction(x, 2, 6, 1, 24, 25);
        fraction(x, 1, 2, 0, 4096, 15625);
    }

    private static void promise32NobodyLives() {
        HostageRound x = lived(3, "AdBdCd", 3);
        fraction(x, 3, 5, 0, 1, 1);
        fraction(x, 3, 5, 1, 0, 1);
        fraction(x, 3, 10, 0, 1, 1);
        fraction(x, 0, 0, 1, 0, 1);
    }

    private static void promise32TheDeadDoNotDieAgain() {
        HostageRound x = lived(4, "AdBdCd", 3);
        fraction(x, 1, 1, 0, 9, 10);
        fraction(x, 1, 1, 1, 9, 10);
        fraction(x, 0, 1, 1, 1, 1);
    }

    // ---- 33 year

    private static void promise33OneSeedBelowTheLeast() {
        due.refused("year(-1, 1, 0)", OUTSIDE, x -> x.year(-1, 1, 0));
        due.refused("year(MIN, 1, 0)", OUTSIDE, x -> x.year(MIN, 1, 0));
    }

    private static void promise33OneSeedAboveTheGreatest() {
        due.refused("year(10000, 1, 0)", OUTSIDE, x -> x.year(10000, 1, 0));
        due.refused("year(MAX, 1, 0)", OUTSIDE, x -> x.year(MAX, 1, 0));
    }

    private static void promise33OneActBelowTheLeast() {
        due.refused("year(0, 0, 0)", OUTSIDE, x -> x.year(0, 0, 0));
        due.refused("year(0, MIN, 0)", OUTSIDE, x -> x.year(0, MIN, 0));
    }

    private static void promise33OneActAboveTheGreatest() {
        due.refused("year(0, 100, 0)", OUTSIDE, x -> x.year(0, 100, 0));
        due.refused("year(0, MAX, 0)", OUTSIDE, x -> x.year(0, MAX, 0));
    }

    private static void promise33WhatIsOutside() {
        due.refused("year(0, 1, -1)", OUTSIDE, x -> x.year(0, 1, -1));
        due.refused("year(0, 1, 3)", OUTSIDE, x -> x.year(0, 1, 3));
    }

    private static void promise33TheLeastSeed() {
        // 74: ten days
        drawn(new HostageRound(), 0, 1, 10, 4, 0);
        drawn(new HostageRound(), 0, 99, 5670, 2, 4);
    }

    private static void promise33TheGreatestSeed() {
        // 749999 left over by 65537 is 29092: the rest of the season
        drawn(new HostageRound(), 9999, 1, 90, 4, 0);
        drawn(new HostageRound(), 9999, 99, 4610, 1, 1);
    }

    private static void promise33TheMostActs() {
        drawn(Due.fresh(6, 99), 9999, 99, 5069, 1, 1);
        drawn(Due.fresh(3, 1), 0, 99, 233, 3, 1);
        drawn(Due.fresh(3, 1), 9999, 99, 331, 3, 2);
    }

    private static void promise33EachOfTheEight() {
        // seeds 2, 5, 0, 3, 6, 1, 4, 7 draw 224, 449, 74, 299, 524, 149, 374, 599
        int[] seeds = {2, 5, 0, 3, 6, 1, 4, 7};
        int[] days = {0, 0, 10, 10, 90, 90, 90, 90};
        int[] names = {4, 2, 4, 4, 4, 4, 4, 4};
        for (int draw = 0; draw < 8; draw++) {
            drawn(new HostageRound(), seeds[draw], 1, days[draw], names[draw], 0);
        }
    }

    private static void promise33OneStays() {
        // A STAYS, ten days, the rest of the season: A and D in 1
        drawn(new HostageRound(), 2, 3, 90, 4, 4);
    }

    private static void promise33HatsOfOneAndItselfCanNotBe() {
        // 2849: CHILD 356 (A) and CHILD 44 (A)
        drawn(new HostageRound(), 37, 1, 0, 4, 0);
    }

    private static void promise33HatsInASeasonCanNotBe() {
        // 2099 ten days, 26425 CHILD 3303 (D) and CHILD 412 (A) change hats
        drawn(new HostageRound(), 27, 2, 10, 4, 0);
        drawn(Due.fresh(4, 10), 27, 2, 10, 2, 0);
    }

    private static void promise33WhoStaysAlreadyCanNotStay() {
        // C STAYS, C STAYS, the rest of the season: B and C in 3
        drawn(new HostageRound(), 498, 3, 90, 4, 1);
        drawn(lived(4, "Cm", 1), 498, 3, 90, 4, 1);
    }

    private static void promise33TheDeadCanNot() {
        drawn(lived(4, "Cd", 1), 498, 3, 90, 3, 1);
        // 449 CHILD 56 (A) and CHILD 7 (D)
        drawn(lived(4, "Ad", 1), 5, 1, 0, 3, 2);
        drawn(lived(4, "Dd", 1), 5, 1, 0, 3, 1);
    }

    private static void promise33NobodyLives() {
        drawn(lived(4, "AdBdCdDd", 4), 5, 1, 0, 0, 15);
        drawn(lived(4, "AdBdCdDd", 4), 0, 1, 10, 0, 15);
    }

    private static void promise33DaysThatHaveGoneInIt() {
        HostageRound x = lived(4, ";:", 2);
        // the rest of the season from its eleventh day on
        drawn(x, 9999, 1, 80, 4, 0);
        drawn(x, 0, 1, 10, 4, 0);
    }

    private static void promise33OnTheLastDayOfASeason() {
        HostageRound x = due.live(Due.fresh(4, 5), "....", 4);
        drawn(x, 9999, 1, 1, 4, 0);
        // ten days: two equinoxes are behind them, A is in 1 yet, C in 1, D in 2
        due.is("LANDS", due.live(x, "AmBd", 2).year(0, 1, 2), 9);
    }

    private static void promise33NothingIsDoneInFact() {
        HostageRound x = Looks.busy();
        HostageRound untouched = Looks.busy();
        for (int what = 0; what <= 2; what++) {
            due.holds("year(77, 99, " + what + ")", x.year(77, 99, what) >= 0);
        }
        Looks.compare(due, "year", x, untouched);
    }
}
