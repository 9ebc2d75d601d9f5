/** Promises 17 to 24: for each sentence that names an edge a test of its own. */
public final class EdgesOfWarsTest {
    private static final int NONE = -6, UNKNOWN = -1, OUTSIDE = -2;
    private static final int MIN = Integer.MIN_VALUE, MAX = Integer.MAX_VALUE;
    private static final Due due = new Due();

    public static void main(String[] args) throws IllegalAccessException {
        due.run(EdgesOfWarsTest.class, 17, 24);
        due.end();
    }

    private static HostageRound lived(int lands, int days, String text, int acts) {
        return due.live(Due.fresh(lands, days), text, acts);
    }

    /** Three LANDS, five days a season: A 1 2 1 2, B 2 0 2 0, C 0 1 0 1. */
    private static HostageRound three() {
        return Due.fresh(3, 5);
    }

    /** Of three LANDS A and B have changed hats. */
    private static HostageRound changedHats() {
        return due.live(three(), "AB", 1);
    }

    /** Of six LANDS A STAYS: A 1 1 2 3 4 5 1. */
    private static HostageRound sixAndAStays() {
        return lived(6, 99, "As", 1);
    }

    // ---- 17 begin

    private static void promise17NoSuchKing() {
        due.refused("begin(-1, 0, 1)", UNKNOWN, x -> x.begin(-1, 0, 1));
        due.refused("begin(5, 0, 1)", UNKNOWN, x -> x.begin(5, 0, 1));
        due.refused("begin(MIN, 0, 1)", UNKNOWN, x -> x.begin(MIN, 0, 1));
        due.refused("begin(MAX, 0, 1)", UNKNOWN, x -> x.begin(MAX, 0, 1));
    }

    private static void promise17NoSuchLand() {
        due.refused("begin(0, -1, 1)", UNKNOWN, x -> x.begin(0, -1, 1));
        due.refused("begin(0, 5, 1)", UNKNOWN, x -> x.begin(0, 5, 1));
        due.refused("begin(0, MIN, 1)", UNKNOWN, x -> x.begin(0, MIN, 1));
        due.refused("begin(0, MAX, 1)", UNKNOWN, x -> x.begin(0, MAX, 1));
    }

    private static void promise17AlsoOne() {
        due.refused("begin(0, 0, 1)", UNKNOWN, x -> x.begin(0, 0, 1));
        due.refused("begin(4, 4, 400), dead", UNKNOWN, x -> x.begin(4, 4, 400));
    }

    private static void promise17OneDayBelowTheLeast() {
        due.refused("begin(0, 1, 0)", OUTSIDE, x -> x.begin(0, 1, 0));
        due.refused("begin(0, 1, MIN)", OUTSIDE, x -> x.begin(0, 1, MIN));
        due.refused("begin(4, 1, 0), dead", OUTSIDE, x -> x.begin(4, 1, 0));
    }

    private static void promise17OneDayAboveTheGreatest() {
        due.refused("begin(0, 1, 401)", OUTSIDE, x -> x.begin(0, 1, 401));
        due.refused("begin(0, 1, MAX)", OUTSIDE, x -> x.begin(0, 1, MAX));
        due.refused("begin(4, 1, 401), dead", OUTSIDE, x -> x.begin(4, 1, 401));
    }

    private static void promise17UnknownComesAheadOfOutside() {
        due.refused("begin(5, 0, 0)", UNKNOWN, x -> x.begin(5, 0, 0));
        due.refused("begin(0, -1, 401)", UNKNOWN, x -> x.begin(0, -1, 401));
        due.refused("begin(2, 2, 0)", UNKNOWN, x -> x.begin(2, 2, 0));
    }

    private static void promise17TheFirstAndTheLastLand() {
        for (int n = 3; n <= 6; n++) {
            HostageRound x = Due.fresh(n, 90);
            due.is("A, on the last LAND of " + n, x.begin(0, n - 1, 1), 0);
            due.is("none behind it", x.begin(0, n, 1), UNKNOWN);
            due.is("the last of " + n + ", on the first", x.begin(n - 1, 0, 1), 90);
            due.is("none behind it", x.begin(n, 0, 1), UNKNOWN);
        }
    }

    private static void promise17TheShortestWar() {
        HostageRound x = three();
        due.is("where A is not", x.begin(0, 2, 1), 0);
        due.is("where A is", x.begin(0, 1, 1), 5);
    }

    private static void promise17TheLongestWar() {
        due.is("A is away five seasons", sixAndAStays().begin(0, 5, 400), 0);
        due.is("A is away four seasons", Due.fresh(6, 99).begin(0, 5, 400), NONE);
    }

    private static void promise17AsLongAsOneIsAway() {
        HostageRound x = Due.fresh(6, 99);
        due.is("four seasons from now", x.begin(0, 5, 396), 0);
        due.is("and a day", x.begin(0, 5, 397), NONE);
        due.is("four seasons from the next on", x.begin(0, 1, 396), 99);
        due.is("and a day", x.begin(0, 1, 397), NONE);
    }

    private static void promise17OnceAlone() {
        HostageRound x = sixAndAStays();
        due.is("five seasons from now", x.begin(0, 5, 400), 0);
        due.live(x, ";:::::::::.....", 15);
        // A comes in 301 days, goes 99 days later and is away four seasons
        due.is("till A comes", x.begin(0, 5, 301), 0);
        due.is("a day more, when A has gone", x.begin(0, 5, 302), 400);
        due.is("as long as A is away then", x.begin(0, 5, 396), 400);
        due.is("a day more", x.begin(0, 5, 397), NONE);
    }

    private static void promise17FromWithinASeason() {
        HostageRound x = due.live(three(), "..", 2);
        due.is("three days are left", x.begin(0, 2, 3), 0);
        due.is("four days", x.begin(0, 2, 4), 8);
        due.is("a season", x.begin(0, 2, 5), 8);
        due.is("more than a season", x.begin(0, 2, 6), NONE);
        due.is("where A is yet", x.begin(0, 1, 5), 3);
    }

    private static void promise17OnTheLastDayOfASeason() {
        HostageRound x = due.live(three(), "....", 4);
        due.is("a day is left", x.begin(0, 2, 1), 0);
        due.is("two days", x.begin(0, 2, 2), 6);
        due.is("where A is yet", x.begin(0, 1, 1), 1);
    }

    private static void promise17OneWhoIsDead() {
        HostageRound x = due.live(three(), "Ad", 1);
        due.is("on 1", x.begin(0, 1, 400), 0);
        due.is("on 2", x.begin(0, 2, 400), 0);
    }

    private static void promise17OneWhoIsMarried() {
        HostageRound x = due.live(three(), "Am", 1);
        due.is("where he is for good", x.begin(0, 1, 1), NONE);
        due.is("where he never is", x.begin(0, 2, 400), 0);
    }

    private static void promise17HatsAreNotAsked() {
        HostageRound x = changedHats();
        due.is("A is in 1", x.begin(0, 1, 1), 5);
        due.is("B never is", x.begin(0, 1, 6), NONE);
    }

    // ---- 18 longest

    private static void promise18NoSuchKing() {
        due.refused("longest(-1, 0, 0)", UNKNOWN, x -> x.longest(-1, 0, 0));
        due.refused("longest(5, 0, 0)", UNKNOWN, x -> x.longest(5, 0, 0));
        due.refused("longest(MAX, 0, 0)", UNKNOWN, x -> x.longest(MAX, 0, 0));
    }

    private static void promise18NoSuchLand() {
        due.refused("longest(0, -1, 0)", UNKNOWN, x -> x.longest(0, -1, 0));
        due.refused("longest(0, 5, 0)", UNKNOWN, x -> x.longest(0, 5, 0));
        due.refused("longest(0, MIN, 0)", UNKNOWN, x -> x.longest(0, MIN, 0));
    }

    private static void promise18AlsoOne() {
        due.refused("longest(0, 0, 0)", UNKNOWN, x -> x.longest(0, 0, 0));
        due.refused("longest(4, 4, 0), dead", UNKNOWN, x -> x.longest(4, 4, 0));
    }

    private static void promise18OneDayBelowTheLeast() {
        due.refused("longest(0, 1, -1)", OUTSIDE, x -> x.longest(0, 1, -1));
        due.refused("longest(0, 1, MIN)", OUTSIDE, x -> x.longest(0, 1, MIN));
    }

    private static void promise18OneDayAboveTheGreatest() {
        due.refused("longest(0, 1, 10000)", OUTSIDE, x -> x.longest(0, 1, 10000));
        due.refused("longest(0, 1, MAX)", OUTSIDE, x -> x.longest(0, 1, MAX));
        due.refused("longest(4, 1, 10000), dead", OUTSIDE, x -> x.longest(4, 1, 10000));
    }

    private static void promise18UnknownComesAheadOfOutside() {
        due.refused("longest(5, 0, 10000)", UNKNOWN, x -> x.longest(5, 0, 10000));
        due.refused("longest(0, -1, -1)", UNKNOWN, x -> x.longest(0, -1, -1));
        due.refused("longest(2, 2, -1)", UNKNOWN, x -> x.longest(2, 2, -1));
    }

    private static void promise18TheLeast() {
        HostageRound x = three();
        due.is("A is there, on the first day", x.longest(0, 1, 0), 0);
        due.is("A is there, on the last day", x.longest(0, 1, 4), 0);
        due.is("A has gone", x.longest(0, 1, 5), 5);
    }

    private static void promise18TheGreatest() {
        HostageRound x = due.live(three(), "AdBm", 2);
        due.is("dead", x.longest(0, 1, 0), 9999);
        due.is("dead, from the last day on", x.longest(0, 1, 9999), 9999);
        due.is("married elsewhere", x.longest(1, 0, 0), 9999);
        due.is("married elsewhere, from the last day on", x.longest(1, 0, 9999), 9999);
    }

    private static void promise18DayByDay() {
        HostageRound x = three();
        int[] days = {5, 4, 3, 2, 1, 0, 0, 0, 0, 0, 5, 4};
        for (int d = 0; d < days.length; d++) {
            due.is("from day " + d, x.longest(0, 2, d), days[d]);
        }
    }

    private static void promise18FromWithinASeason() {
        HostageRound x = due.live(three(), "...", 3);
        int[] days = {2, 1, 0, 0, 0, 0, 0, 5, 4};
        for (int d = 0; d < days.length; d++) {
            due.is("from day " + d, x.longest(0, 2, d), days[d]);
        }
    }

    private static void promise18TheLastDay() {
        // 9999 is 101 seasons of 99 days: A is in 2 from then on
        HostageRound x = Due.fresh(3, 99);
        due.is("on 2, a day ahead", x.longest(0, 2, 9998), 1);
        due.is("on 2", x.longest(0, 2, 9999), 0);
        due.is("on 1, a day ahead", x.longest(0, 1, 9998), 0);
        due.is("on 1", x.longest(0, 1, 9999), 99);
    }

    private static void promise18MoreThanAWarOfTheOtherCalls() {
        HostageRound x = sixAndAStays();
        due.is("five seasons", x.longest(0, 5, 0), 495);
        due.is("from the next on", x.longest(0, 5, 99), 396);
    }

    private static void promise18MarriedThere() {
        HostageRound x = due.live(three(), "Am", 1);
        due.is("now", x.longest(0, 1, 0), 0);
        due.is("on the last day", x.longest(0, 1, 9999), 0);
    }

    // ---- 19 struck

    private static void promise19NoSuchLand() {
        due.refused("struck(-1, 0, 1)", UNKNOWN, x -> x.struck(-1, 0, 1));
        due.refused("struck(5, 0, 1)", UNKNOWN, x -> x.struck(5, 0, 1));
        due.refused("struck(MIN, 0, 1)", UNKNOWN, x -> x.struck(MIN, 0, 1));
        due.refused("struck(MAX, 0, 1)", UNKNOWN, x -> x.struck(MAX, 0, 1));
    }

    private static void promise19OneDayBelowTheLeast() {
        due.refused("struck(0, -1, 1)", OUTSIDE, x -> x.struck(0, -1, 1));
        due.refused("struck(0, MIN, 1)", OUTSIDE, x -> x.struck(0, MIN, 1));
    }

    private static void promise19OneDayAboveTheGreatest() {
        due.refused("struck(0, 10000, 1)", OUTSIDE, x -> x.struck(0, 10000, 1));
        due.refused("struck(0, MAX, 1)", OUTSIDE, x -> x.struck(0, MAX, 1));
    }

    private static void promise19AWarBelowTheLeast() {
        due.refused("struck(0, 0, 0)", OUTSIDE, x -> x.struck(0, 0, 0));
        due.refused("struck(0, 0, MIN)", OUTSIDE, x -> x.struck(0, 0, MIN));
    }

    private static void promise19AWarAboveTheGreatest() {
        due.refused("struck(0, 0, 401)", OUTSIDE, x -> x.struck(0, 0, 401));
        due.refused("struck(0, 0, MAX)", OUTSIDE, x -> x.struck(0, 0, MAX));
    }

    private static void promise19UnknownComesAheadOfOutside() {
        due.refused("struck(5, -1, 1)", UNKNOWN, x -> x.struck(5, -1, 1));
        due.refused("struck(-1, 0, 401)", UNKNOWN, x -> x.struck(-1, 0, 401));
    }

    private static void promise19TheFirstAndTheLastLand() {
        for (int n = 3; n <= 6; n++) {
            HostageRound x = Due.fresh(n, 90);
            due.is("0 of " + n, x.struck(0, 0, 1), (1 << n - 1) - 2);
            due.is("the last of " + n, x.struck(n - 1, 0, 1), (1 << n - 2) - 1);
            due.is("none behind it", x.struck(n, 0, 1), UNKNOWN);
        }
    }

    private static void promise19TheLeastAndTheGreatestDay() {
        HostageRound x = Due.fresh(3, 99);
        due.is("1, now", x.struck(1, 0, 99), 4);
        due.is("1, a day longer", x.struck(1, 0, 100), 0);
        due.is("1, a day ahead of the last", x.struck(1, 9998, 1), 4);
        due.is("1, on the last day", x.struck(1, 9999, 99), 1);
        due.is("1, on the last day, a day longer", x.struck(1, 9999, 100), 0);
    }

    private static void promise19TheLongestWar() {
        HostageRound x = sixAndAStays();
        due.is("5 by A, who is five seasons away", x.struck(5, 0, 400), 1);
        due.is("5, 95 days later", x.struck(5, 95, 400), 1);
        due.is("5, a day later yet", x.struck(5, 96, 400), 0);
    }

    private static void promise19TheLastDayOfASeason() {
        HostageRound x = three();
        due.is("a day on the last day", x.struck(1, 4, 1), 4);
        due.is("two days", x.struck(1, 4, 2), 0);
        due.is("a day on the first day behind it", x.struck(1, 5, 1), 1);
    }

    private static void promise19ItsOwnKingDoesNot() {
        for (int land = 0; land < 3; land++) {
            due.is("its own of " + land, three().struck(land, 0, 1) & 1 << land, 0);
        }
    }

    private static void promise19ThoseOfDeadChildrenAlways() {
        HostageRound x = due.live(three(), "AdCd", 2);
        due.is("1, now", x.struck(1, 0, 400), 5);
        due.is("1, on the last day", x.struck(1, 9999, 400), 5);
        due.is("0, not by its own king", x.struck(0, 0, 400), 4);
        due.live(x, "Bd", 1);
        due.is("nobody lives", x.struck(2, 9999, 400), 3);
    }

    // ---- 20 sure

    private static void promise20OneDayBelowTheLeast() {
        due.refused("sure(0)", OUTSIDE, x -> x.sure(0));
        due.refused("sure(-1)", OUTSIDE, x -> x.sure(-1));
        due.refused("sure(MIN)", OUTSIDE, x -> x.sure(MIN));
    }

    private static void promise20OneDayAboveTheGreatest() {
        due.refused("sure(401)", OUTSIDE, x -> x.sure(401));
        due.refused("sure(MAX)", OUTSIDE, x -> x.sure(MAX));
    }

    private static void promise20TheShortestWar() {
        for (int n = 3; n <= 6; n++) {
            due.is("of " + n, Due.fresh(n, 1).sure(1), 0);
        }
    }

    private static void promise20TheLongestWar() {
        for (int n = 3; n <= 6; n++) {
            due.is("of " + n, Due.fresh(n, 99).sure(400), (1 << n) - 1);
        }
        due.is("5 can be struck by A once", sixAndAStays().sure(400), 31);
    }

    private static void promise20AsLongAsOneIsAway() {
        for (int n = 3; n <= 6; n++) {
            due.is("all but one season of " + n, Due.fresh(n, 40).sure(40 * (n - 2)), 0);
            due.is("a day more of " + n, Due.fresh(n, 40).sure(40 * (n - 2) + 1), (1 << n) - 1);
        }
    }

    private static void promise20OnceIsEnough() {
        HostageRound x = due.live(new HostageRound(), "As", 1);
        due.is("3 by A from now", x.sure(270), 7);
        due.live(x, ".", 1);
        due.is("a day later", x.sure(270), 15);
        due.is("a day less", x.sure(269), 7);
    }

    private static void promise20ItsOwnKingDoesNot() {
        HostageRound x = due.live(new HostageRound(), "Bd", 1);
        due.is("all but B's own can be struck", x.sure(400), 2);
        due.live(x, "Dd", 1);
        due.is("those, too", x.sure(400), 0);
    }

    private static void promise20NobodyLives() {
        due.is("all can be struck", due.live(three(), "AdBdCd", 3).sure(400), 0);
    }

    private static void promise20OneWhoIsMarried() {
        HostageRound x = due.live(new HostageRound(), "Am", 1);
        due.is("his own, and where he is", x.sure(400), 3);
    }

    // ---- 21 fooled

    private static void promise21NoSuchLand() {
        due.refused("fooled(-1, 0, 1)", UNKNOWN, x -> x.fooled(-1, 0, 1));
        due.refused("fooled(5, 0, 1)", UNKNOWN, x -> x.fooled(5, 0, 1));
        due.refused("fooled(MIN, 0, 1)", UNKNOWN, x -> x.fooled(MIN, 0, 1));
        due.refused("fooled(MAX, 0, 1)", UNKNOWN, x -> x.fooled(MAX, 0, 1));
    }

    private static void promise21OneDayBelowTheLeast() {
        due.refused("fooled(0, -1, 1)", OUTSIDE, x -> x.fooled(0, -1, 1));
        due.refused("fooled(0, MIN, 1)", OUTSIDE, x -> x.fooled(0, MIN, 1));
    }

    private static void promise21OneDayAboveTheGreatest() {
        due.refused("fooled(0, 10000, 1)", OUTSIDE, x -> x.fooled(0, 10000, 1));
        due.refused("fooled(0, MAX, 1)", OUTSIDE, x -> x.fooled(0, MAX, 1));
    }

    private static void promise21AWarBelowTheLeast() {
        due.refused("fooled(0, 0, 0)", OUTSIDE, x -> x.fooled(0, 0, 0));
        due.refused("fooled(0, 0, MIN)", OUTSIDE, x -> x.fooled(0, 0, MIN));
    }

    private static void promise21AWarAboveTheGreatest() {
        due.refused("fooled(0, 0, 401)", OUTSIDE, x -> x.fooled(0, 0, 401));
        due.refused("fooled(0, 0, MAX)", OUTSIDE, x -> x.fooled(0, 0, MAX));
    }

    private static void promise21UnknownComesAheadOfOutside() {
        due.refused("fooled(5, -1, 1)", UNKNOWN, x -> x.fooled(5, -1, 1));
        due.refused("fooled(-1, 0, 401)", UNKNOWN, x -> x.fooled(-1, 0, 401));
    }

    private static void promise21WhoBearsItsOwnNameFoolsNobody() {
        HostageRound x = three();
        for (int land = 0; land < 3; land++) {
            for (int d = 0; d < 12; d++) {
                due.is(land + " on " + d, x.fooled(land, d, 1 + d % 6), 0);
            }
        }
    }

    private static void promise21TheLeast() {
        HostageRound x = changedHats();
        due.is("1 by A's king, who takes B for A", x.fooled(1, 0, 1), 1);
        due.is("2 by B's king, who takes A for B", x.fooled(2, 0, 1), 2);
        due.is("0: what is so taken is so", x.fooled(0, 0, 1), 0);
    }

    private static void promise21AsLongAsTheBearerIsAway() {
        HostageRound x = changedHats();
        due.is("2 by B's king, till A comes", x.fooled(2, 0, 5), 2);
        due.is("A would be there", x.fooled(2, 0, 6), 0);
        due.is("2 by A's king, till B comes", x.fooled(2, 5, 5), 1);
        due.is("B would be there", x.fooled(2, 5, 6), 0);
    }

    private static void promise21WhatMayBeIsNoFoolsWar() {
        HostageRound x = changedHats();
        due.is("1, as long as A is away", x.fooled(1, 5, 5), 0);
        due.is("1, a day more", x.fooled(1, 5, 6), 1);
        due.is("0, as long as B is away", x.fooled(0, 0, 5), 0);
        due.is("0, a day more", x.fooled(0, 0, 6), 2);
    }

    private static void promise21TheLongestWar() {
        HostageRound x = changedHats();
        due.is("B is never in 1", x.fooled(1, 0, 400), 1);
        due.is("A is never in 0", x.fooled(0, 0, 400), 2);
    }

    private static void promise21TheLastDay() {
        // day 9999 is the last of season 1999: A is in 2, B in 0, and the next day the other way
        HostageRound x = changedHats();
        due.is("2, a day", x.fooled(2, 9999, 1), 1);
        due.is("2, two days", x.fooled(2, 9999, 2), 0);
        due.is("1, a day", x.fooled(1, 9999, 1), 0);
        due.is("1, two days", x.fooled(1, 9999, 2), 1);
    }

    private static void promise21ADeadBearerIsTakenForDead() {
        HostageRound x = due.live(changedHats(), "Bd", 1);
        due.is("1, where A is", x.fooled(1, 0, 1), 1);
        due.is("1, for long", x.fooled(1, 9999, 400), 1);
        due.is("2, where A is not", x.fooled(2, 0, 5), 0);
        due.is("2, where A will be", x.fooled(2, 0, 6), 1);
    }

    private static void promise21WhoseOwnIsDeadIsNotFooled() {
        HostageRound x = due.live(changedHats(), "Bd", 1);
        due.is("2, where A is not", x.fooled(2, 0, 1) & 2, 0);
        due.is("0: B's king MAY always", x.fooled(0, 0, 400), 0);
    }

    private static void promise21BothAreDead() {
        HostageRound x = due.live(changedHats(), "AdBd", 2);
        for (int land = 0; land < 3; land++) {
            due.is("of " + land, x.fooled(land, 0, 400), 0);
        }
    }

    private static void promise21ItsOwnKingDoesNot() {
        // of four LANDS B bears A's NAME; A is never in 0, but B is
        HostageRound x = due.live(new HostageRound(), "AB;;", 3);
        due.is("0, where B is", x.fooled(0, 0, 1), 2);
        due.is("1, not by B's own king", x.fooled(1, 90, 400), 1);
    }

    // ---- 22 letter

    private static void promise22NoSuchLand() {
        due.refused("letter(-1, 0)", UNKNOWN, x -> x.letter(-1, 0));
        due.refused("letter(5, 0)", UNKNOWN, x -> x.letter(5, 0));
        due.refused("letter(0, -1)", UNKNOWN, x -> x.letter(0, -1));
        due.refused("letter(0, 5)", UNKNOWN, x -> x.letter(0, 5));
        due.refused("letter(MIN, MAX)", UNKNOWN, x -> x.letter(MIN, MAX));
        due.refused("letter(MAX, MIN)", UNKNOWN, x -> x.letter(MAX, MIN));
    }

    private static void promise22AlsoOneThatThereIsNot() {
        due.refused("letter(5, 5)", UNKNOWN, x -> x.letter(5, 5));
        due.refused("letter(-1, -1)", UNKNOWN, x -> x.letter(-1, -1));
    }

    private static void promise22OneIsNought() {
        HostageRound x = new HostageRound();
        due.live(x, ".", 1);
        for (int land = 0; land < 4; land++) {
            due.is("of " + land, x.letter(land, land), 0);
        }
    }

    private static void promise22TheOtherWayRound() {
        for (int n = 3; n <= 6; n++) {
            HostageRound x = Due.fresh(n, 90);
            due.is("from 1 to 0 of " + n, x.letter(1, 0), 90);
            due.is("from 0 to 1 of " + n, x.letter(0, 1), 90 * (n - 1));
        }
    }

    private static void promise22AheadOfTheFirstLandComesTheLast() {
        for (int n = 3; n <= 6; n++) {
            HostageRound x = Due.fresh(n, 90);
            due.is("from the first to the last of " + n, x.letter(0, n - 1), 90);
            due.is("from the last to the first of " + n, x.letter(n - 1, 0), 90 * (n - 1));
            due.is("none behind the last", x.letter(0, n), UNKNOWN);
        }
    }

    private static void promise22ItWaitsTillTheEquinox() {
        HostageRound x = due.live(Due.fresh(4, 5), ".", 1);
        due.is("on the second day", x.letter(1, 0), 4);
        due.live(x, "...", 3);
        due.is("on the last day", x.letter(1, 0), 1);
        due.is("three equinoxes", x.letter(0, 1), 11);
        due.live(x, ".", 1);
        due.is("on the first day behind it", x.letter(1, 0), 5);
    }

    private static void promise22TheLongestSeasonsAndTheShortest() {
        due.is("five of 99 days", Due.fresh(6, 99).letter(0, 1), 495);
        due.is("five of a day", Due.fresh(6, 1).letter(0, 1), 5);
    }

    // ---- 23 copy

    private static void promise23NoSuchKing() {
        due.refused("copy(-1)", UNKNOWN, x -> x.copy(-1));
        due.refused("copy(5)", UNKNOWN, x -> x.copy(5));
        due.refused("copy(MIN)", UNKNOWN, x -> x.copy(MIN));
        due.refused("copy(MAX)", UNKNOWN, x -> x.copy(MAX));
    }

    private static void promise23TheFirstAndTheLastKing() {
        // of three the letter and the CHILD are in one LAND behind the first equinox
        HostageRound x = three();
        due.is("A", x.copy(0), 5);
        due.is("C", x.copy(2), 5);
        due.is("none behind it", x.copy(3), UNKNOWN);
        x.lands(6);
        // F 0 1 2 3 4 0, its letter 5 4 3 2 1 0
        due.is("F", x.copy(5), 25);
        due.is("none behind it", x.copy(6), UNKNOWN);
    }

    private static void promise23TheFirstDayThereCanBe() {
        due.is("seasons of a day", Due.fresh(3, 1).copy(0), 1);
        due.is("on the last day of a season", due.live(three(), "....", 4).copy(0), 1);
    }

    private static void promise23TheLetterGoesOnAheadOfTheFirstLand() {
        // A 1 1 2 1 2, its letter 0 2 1 0 2
        due.is("of three", due.live(three(), "As", 1).copy(0), 20);
    }

    private static void promise23TheLetterComesPastItsKing() {
        // A 4 1 2 3 4 1 2 3, its letter 0 4 3 2 1 0 4 3
        due.is("seven seasons", lived(5, 99, ";;;", 3).copy(0), 693);
    }

    private static void promise23OneWhoIsDead() {
        HostageRound x = due.live(three(), "AdCd", 2);
        due.is("A", x.copy(0), NONE);
        due.is("C", x.copy(2), NONE);
        due.is("B lives", x.copy(1), 5);
    }

    private static void promise23OneWhoIsMarried() {
        due.is("in the LAND behind the king's: last", due.live(new HostageRound(), "Am", 1).copy(0), 270);
        due.is("in the LAND ahead of it: first", due.live(new HostageRound(), ";;Am", 3).copy(0), 90);
    }

    private static void promise23HatsAreNotAsked() {
        due.is("A", changedHats().copy(0), 5);
        due.is("A, if its bearer is dead", due.live(changedHats(), "Bd", 1).copy(0), 5);
    }

    // ---- 24 furs

    private static void promise24OneSeasonBelowTheLeast() {
        due.refused("furs(0, 0)", OUTSIDE, x -> x.furs(0, 0));
        due.refused("furs(-1, 1)", OUTSIDE, x -> x.furs(-1, 1));
        due.refused("furs(MIN, 0)", OUTSIDE, x -> x.furs(MIN, 0));
    }

    private static void promise24OneSeasonAboveTheGreatest() {
        due.refused("furs(25, 0)", OUTSIDE, x -> x.furs(25, 0));
        due.refused("furs(25, 1)", OUTSIDE, x -> x.furs(25, 1));
        due.refused("furs(MAX, 0)", OUTSIDE, x -> x.furs(MAX, 0));
    }

    private static void promise24WhatIsOutside() {
        due.refused("furs(1, -1)", OUTSIDE, x -> x.furs(1, -1));
        due.refused("furs(1, 2)", OUTSIDE, x -> x.furs(1, 2));
    }

    private static void promise24NothingIsCold() {
        HostageRound x = new HostageRound();
        due.is("furs", x.furs(24, 0), 0);
        due.is("the season", x.furs(24, 1), 0);
    }

    private static void promise24AllIsAsColdAsCanBe() {
        HostageRound x = Due.fresh(6, 90);
        for (int land = 0; land < 6; land++) {
            x.set(land, 0, 9);
        }
        due.is("furs", x.furs(24, 0), 54);
        due.is("the season", x.furs(24, 1), 0);
    }

    private static void promise24TheLeastAndTheGreatestNumberOfSeasons() {
        // A 1 1 2 3 4 5, F 0 1 2 3 4 0, E 5 0 1 2 3 5: in 5 both A and E behind five equinoxes
        HostageRound x = sixAndAStays();
        x.set(5, 0, 2);
        due.is("this one", x.furs(1, 0), 2);
        due.is("this one", x.furs(1, 1), 0);
        due.is("five of them", x.furs(5, 0), 2);
        due.is("six of them", x.furs(6, 0), 4);
        due.is("six of them", x.furs(6, 1), 5);
        due.is("all of them", x.furs(24, 0), 4);
        due.is("all of them", x.furs(24, 1), 5);
    }

    private static void promise24TheFirstSeasonOfSome() {
        HostageRound x = due.live(new HostageRound(), "As", 1);
        x.set(1, 0, 9);
        // in 1: A, A and D, C, nobody, A and D
        due.is("furs", x.furs(24, 0), 18);
        due.is("the first of the two", x.furs(24, 1), 1);
    }

    private static void promise24FromThisSeasonOn() {
        HostageRound x = due.live(new HostageRound(), "As", 1);
        x.set(1, 0, 9);
        due.live(x, "::::::::.........", 17);
        due.is("on the last day of this one", x.furs(1, 0), 9);
        due.is("the next is 1", x.furs(24, 1), 1);
        due.live(x, ".", 1);
        due.is("on the first day of the next", x.furs(1, 0), 18);
        due.is("it is 0", x.furs(24, 1), 0);
    }

    private static void promise24NobodyIsThere() {
        HostageRound x = due.live(new HostageRound(), "As;", 2);
        x.set(2, 0, 9);
        due.is("this season", x.furs(1, 0), 0);
        due.is("this season", x.furs(1, 1), 0);
    }

    private static void promise24TheDeadWantNone() {
        HostageRound x = new HostageRound();
        for (int land = 0; land < 4; land++) {
            x.set(land, 0, 1 + land);
        }
        due.is("all of them", x.furs(1, 0), 10);
        due.live(x, "Ad", 1);
        due.is("A in 1 wants none", x.furs(1, 0), 8);
        due.live(x, "BdCdDd", 3);
        due.is("nobody wants one", x.furs(24, 0), 0);
        due.is("the season", x.furs(24, 1), 0);
    }

    private static void promise24TheMarriedWantSome() {
        HostageRound x = due.live(new HostageRound(), "AmBdCdDd", 4);
        x.set(1, 0, 7);
        due.is("furs", x.furs(24, 0), 7);
        due.is("the season", x.furs(24, 1), 0);
    }
}
