/** Promises 1 to 12: for each sentence that names an edge a test of its own. */
public final class EdgesOfYearsTest {
    private static final int NONE = -6, UNKNOWN = -1, OUTSIDE = -2, STATE = -3, FULL = -4, NO = -5;
    private static final Due due = new Due();

    public static void main(String[] args) throws IllegalAccessException {
        due.run(EdgesOfYearsTest.class, 1, 12);
        due.end();
    }

    private static String times(int many, String text) {
        return text.repeat(many);
    }

    private static int faultOf(int lands, String text) {
        return Due.write(Due.fresh(lands, 90), text).fault();
    }

    private static void judged(HostageRound x, String text, int act, int why) {
        Due.write(x, text);
        due.is("judge(0) of " + text, x.judge(0), act);
        due.is("judge(1) of " + text, x.judge(1), why);
    }

    // ---- 1 a new object

    private static void promise01FourLandsAtFirst() {
        HostageRound x = new HostageRound();
        due.is("LANDS", x.told(1), 4);
        due.is("the last LAND there is", x.who(3, 0), 4);
        due.is("the first LAND that there is not", x.who(4, 0), UNKNOWN);
        due.is("the last CHILD there is", x.state(3, 1), 3);
        due.is("the first CHILD that there is not", x.state(4, 1), UNKNOWN);
        due.is("CHILDREN", x.told(5), 15);
    }

    private static void promise01SeasonsOfNinetyDaysAtFirst() {
        HostageRound x = new HostageRound();
        due.is("LONG", x.told(2), 90);
        due.is("the last day of the season", x.where(0, 89), 1);
        due.is("the first day behind it", x.where(0, 90), 2);
    }

    private static void promise01DayNoughtIsTheFirstOfASeason() {
        HostageRound x = new HostageRound();
        due.is("the day", x.told(3), 0);
        due.is("the season", x.told(4), 0);
        due.is("days to the equinox", x.letter(1, 0), 90);
        due.is("hats can be changed", Due.write(x, "AB").judge(0), NONE);
        due.is("LONG can be changed", x.season(1), 90);
    }

    private static void promise01BehindTheLastLandComesTheFirst() {
        HostageRound x = new HostageRound();
        due.is("A", x.state(0, 0), 1);
        due.is("B", x.state(1, 0), 2);
        due.is("C", x.state(2, 0), 3);
        due.is("D", x.state(3, 0), 0);
    }

    private static void promise01EachIsHeldForItself() {
        HostageRound x = new HostageRound();
        for (int child = 0; child < 4; child++) {
            due.is("NAME of " + child, x.state(child, 1), child);
        }
        due.is("changes to undo", x.undo(), 0);
    }

    private static void promise01NobodyIsBoundAtFirst() {
        HostageRound x = new HostageRound();
        for (int child = 0; child < 4; child++) {
            due.is("bond of " + child, x.state(child, 2), 0);
        }
    }

    private static void promise01NothingIsColdAndNobodyCoughsAtFirst() {
        HostageRound x = new HostageRound();
        for (int k = 0; k < 4; k++) {
            due.is("COLD of " + k, x.told(10 + k), 0);
            due.is("whether it COUGHS " + k, x.told(20 + k), 0);
        }
    }

    private static void promise01ThePadIsEmptyAtFirst() {
        HostageRound x = new HostageRound();
        due.is("signs", x.told(0), 0);
        due.is("no FAULT", x.fault(), NONE);
        due.is("nothing to wipe", x.wipe(), 0);
        due.is("the first sign", x.say('.'), 1);
    }

    private static void promise01ThereAreNoSightsAtFirst() {
        HostageRound x = new HostageRound();
        due.is("SIGHTS", x.told(6), 0);
        due.is("nothing to forget", x.forget(), 0);
        due.is("all rows fit", x.changed(-1), 24);
    }

    private static void promise01ThereAreNoImagesAtFirst() {
        HostageRound x = new HostageRound();
        due.is("IMAGE 0", x.restore(0), STATE);
        due.is("IMAGE 1", x.restore(1), STATE);
    }

    private static void promise01TwoObjectsHaveNothingInCommon() {
        HostageRound x = Looks.busy();
        due.same("an object beside a busy one", Looks.all(new HostageRound()), Looks.all(new HostageRound()));
        due.is("LANDS of it", new HostageRound().told(1), 4);
        due.is("LANDS of the busy one", x.told(1), 5);
    }

    // ---- 2 lands

    private static void promise02OneBelowTheLeast() {
        due.refused("lands(2)", OUTSIDE, x -> x.lands(2));
    }

    private static void promise02OneAboveTheGreatest() {
        due.refused("lands(7)", OUTSIDE, x -> x.lands(7));
    }

    private static void promise02FarOutside() {
        due.refused("lands(0)", OUTSIDE, x -> x.lands(0));
        due.refused("lands(-3)", OUTSIDE, x -> x.lands(-3));
        due.refused("lands(MIN)", OUTSIDE, x -> x.lands(Integer.MIN_VALUE));
        due.refused("lands(MAX)", OUTSIDE, x -> x.lands(Integer.MAX_VALUE));
    }

    private static void promise02TheLeast() {
        HostageRound x = new HostageRound();
        due.is("lands(3)", x.lands(3), 4);
        due.is("LANDS", x.told(1), 3);
        due.is("CHILDREN", x.told(5), 7);
        due.is("the last LAND there is", x.told(12), 0);
        due.is("the first that there is not", x.told(13), OUTSIDE);
        due.is("behind the last LAND comes the first", x.state(2, 0), 0);
    }

    private static void promise02TheGreatest() {
        HostageRound x = new HostageRound();
        due.is("lands(6)", x.lands(6), 4);
        due.is("LANDS", x.told(1), 6);
        due.is("CHILDREN", x.told(5), 63);
        due.is("the last LAND there is", x.told(15), 0);
        due.is("the first that there is not", x.told(16), OUTSIDE);
        due.is("behind the last LAND comes the first", x.state(5, 0), 0);
    }

    private static void promise02WhichItWas() {
        HostageRound x = new HostageRound();
        due.is("lands(6)", x.lands(6), 4);
        due.is("lands(3)", x.lands(3), 6);
        due.is("lands(2)", x.lands(2), OUTSIDE);
        due.is("lands(5)", x.lands(5), 3);
        due.is("lands(5) again", x.lands(5), 5);
    }

    private static void promise02AllIsAsAtFirst() {
        for (int n = 3; n <= 6; n++) {
            HostageRound x = Looks.busy();
            HostageRound fresh = Due.fresh(n, 7);
            due.is("lands(" + n + ")", x.lands(n), 5);
            x.wipe();
            due.same("lands(" + n + ")", Looks.all(x), Looks.all(fresh));
        }
    }

    private static void promise02ColdAndCoughsOfTheLastLandsGo() {
        HostageRound x = Due.fresh(6, 90);
        x.set(5, 0, 9);
        x.set(5, 1, 1);
        x.lands(3);
        x.lands(6);
        due.is("COLD of LAND 5", x.told(15), 0);
        due.is("whether F COUGHS", x.told(25), 0);
    }

    private static void promise02LongIsKept() {
        HostageRound x = Looks.busy();
        x.lands(6);
        due.is("LONG", x.told(2), 7);
        due.is("the last day of the season", x.where(0, 6), 1);
        due.is("the first day behind it", x.where(0, 7), 2);
    }

    private static void promise02TheDayIsTheFirstOfASeason() {
        HostageRound x = Looks.busy();
        due.is("not yet", x.season(8), STATE);
        x.lands(5);
        due.is("LONG can be changed", x.season(8), 7);
    }

    private static void promise02ThePadIsKept() {
        HostageRound x = Due.write(new HostageRound(), ";As.");
        x.lands(6);
        due.is("signs", x.told(0), 4);
        due.is("what they tell", x.day(), 91);
        due.is("and of A", x.done(), 3);
        due.is("A STAYS", x.state(0, 2), 1);
    }

    private static void promise02AFullPadIsKept() {
        HostageRound x = Due.write(new HostageRound(), times(60, "."));
        x.lands(3);
        due.is("signs", x.told(0), 60);
        due.is("no sign more", x.say('.'), FULL);
    }

    private static void promise02ImagesAreKept() {
        HostageRound x = Looks.busy();
        HostageRound untouched = Looks.busy();
        x.lands(6);
        due.is("IMAGE 0", x.restore(0), 1);
        due.is("IMAGE 0 of the other", untouched.restore(0), 1);
        due.same("IMAGE 0", Looks.all(x), Looks.all(untouched));
        due.is("IMAGE 1", x.restore(1), 1);
        due.is("IMAGE 1 of the other", untouched.restore(1), 1);
        due.same("IMAGE 1", Looks.all(x), Looks.all(untouched));
    }

    // ---- 3 season

    private static void promise03OneBelowTheLeast() {
        due.refused("season(0)", OUTSIDE, x -> x.lands(5), x -> x.season(0));
    }

    private static void promise03OneAboveTheGreatest() {
        due.refused("season(100)", OUTSIDE, x -> x.lands(5), x -> x.season(100));
    }

    private static void promise03FarOutside() {
        due.refused("season(-1)", OUTSIDE, x -> x.lands(5), x -> x.season(-1));
        due.refused("season(MIN)", OUTSIDE, x -> x.lands(5), x -> x.season(Integer.MIN_VALUE));
        due.refused("season(MAX)", OUTSIDE, x -> x.lands(5), x -> x.season(Integer.MAX_VALUE));
    }

    private static void promise03TheLeast() {
        HostageRound x = new HostageRound();
        due.is("season(1)", x.season(1), 90);
        due.is("LONG", x.told(2), 1);
        due.is("an equinox each day", x.where(0, 1), 2);
        due.is("and each day", x.where(0, 2), 3);
        due.live(x, ".", 1);
        due.is("each day is the first of a season", x.season(2), 1);
    }

    private static void promise03TheGreatest() {
        HostageRound x = new HostageRound();
        due.is("season(99)", x.season(99), 90);
        due.is("LONG", x.told(2), 99);
        due.is("the last day", x.where(0, 98), 1);
        due.is("the first behind it", x.where(0, 99), 2);
    }

    private static void promise03WhichItWas() {
        HostageRound x = new HostageRound();
        due.is("season(99)", x.season(99), 90);
        due.is("season(1)", x.season(1), 99);
        due.is("season(0)", x.season(0), OUTSIDE);
        due.is("season(1) again", x.season(1), 1);
    }

    private static void promise03OnTheSecondDay() {
        due.refused("season(8)", STATE, x -> due.live(x, ";.", 2), x -> x.season(8));
    }

    private static void promise03OnTheLastDay() {
        HostageRound x = due.live(Due.fresh(4, 5), "....", 4);
        due.is("season(5)", x.season(5), STATE);
        due.is("LONG", x.told(2), 5);
        due.live(x, ".", 1);
        due.is("on the first day behind it", x.season(6), 5);
    }

    private static void promise03OutsideComesAheadOfState() {
        due.refused("season(0) in a season", OUTSIDE, x -> x.season(0));
        due.refused("season(100) in a season", OUTSIDE, x -> x.season(100));
    }

    private static void promise03NothingElseIsChanged() {
        HostageRound x = due.live(Due.fresh(4, 5), "AB;CsAd", 4);
        x.season(9);
        due.is("the day", x.told(3), 5);
        due.is("the season", x.told(4), 1);
        due.is("C STAYS", x.state(2, 2), 1);
        due.is("days to the equinox", x.letter(1, 0), 9);
    }

    // ---- 4 set

    private static void promise04NoSuchLand() {
        due.refused("set(-1, 0, 0)", UNKNOWN, x -> x.set(-1, 0, 0));
        due.refused("set(5, 0, 0)", UNKNOWN, x -> x.set(5, 0, 0));
        due.refused("set(MIN, 0, 0)", UNKNOWN, x -> x.set(Integer.MIN_VALUE, 0, 0));
        due.refused("set(MAX, 0, 0)", UNKNOWN, x -> x.set(Integer.MAX_VALUE, 0, 0));
    }

    private static void promise04NoSuchChild() {
        due.refused("set(-1, 1, 1)", UNKNOWN, x -> x.set(-1, 1, 1));
        due.refused("set(5, 1, 1)", UNKNOWN, x -> x.set(5, 1, 1));
    }

    private static void promise04NeitherColdNorCoughs() {
        due.refused("set(0, -1, 0)", OUTSIDE, x -> x.set(0, -1, 0));
        due.refused("set(0, 2, 0)", OUTSIDE, x -> x.set(0, 2, 0));
    }

    private static void promise04ColdOneBelowTheLeast() {
        due.refused("set(0, 0, -1)", OUTSIDE, x -> x.set(0, 0, -1));
    }

    private static void promise04ColdOneAboveTheGreatest() {
        due.refused("set(0, 0, 10)", OUTSIDE, x -> x.set(0, 0, 10));
    }

    private static void promise04CoughsOneBelowTheLeast() {
        due.refused("set(1, 1, -1)", OUTSIDE, x -> x.set(1, 1, -1));
    }

    private static void promise04CoughsOneAboveTheGreatest() {
        due.refused("set(1, 1, 2)", OUTSIDE, x -> x.set(1, 1, 2));
    }

    private static void promise04UnknownComesAheadOfOutside() {
        due.refused("set(5, 2, 10)", UNKNOWN, x -> x.set(5, 2, 10));
        due.refused("set(-1, 0, 10)", UNKNOWN, x -> x.set(-1, 0, 10));
        due.refused("set(5, 1, 2)", UNKNOWN, x -> x.set(5, 1, 2));
    }

    private static void promise04TheLeastAndTheGreatestCold() {
        HostageRound x = new HostageRound();
        due.is("COLD 9", x.set(0, 0, 9), 0);
        due.is("told", x.told(10), 9);
        due.is("COLD 0", x.set(0, 0, 0), 9);
        due.is("told", x.told(10), 0);
        due.is("which it was", x.set(0, 0, 1), 0);
    }

    private static void promise04CoughsOrNot() {
        HostageRound x = new HostageRound();
        due.is("it COUGHS", x.set(3, 1, 1), 0);
        due.is("told", x.told(23), 1);
        due.is("it does not", x.set(3, 1, 0), 1);
        due.is("told", x.told(23), 0);
        due.is("which it was", x.set(3, 1, 0), 0);
    }

    private static void promise04TheFirstAndTheLastOne() {
        for (int n = 3; n <= 6; n++) {
            HostageRound x = Due.fresh(n, 90);
            due.is("LAND 0 of " + n, x.set(0, 0, 4), 0);
            due.is("the last LAND of " + n, x.set(n - 1, 0, 6), 0);
            due.is("none behind it", x.set(n, 0, 6), UNKNOWN);
            due.is("CHILD 0 of " + n, x.set(0, 1, 1), 0);
            due.is("the last CHILD of " + n, x.set(n - 1, 1, 1), 0);
            due.is("none behind it", x.set(n, 1, 1), UNKNOWN);
            due.is("COLD of 0", x.told(10), 4);
            due.is("COLD of 1", x.told(11), 0);
            due.is("COLD of the last", x.told(9 + n), 6);
            due.is("whether 1 COUGHS", x.told(21), 0);
            due.is("whether the last COUGHS", x.told(19 + n), 1);
        }
    }

    private static void promise04ColdAndCoughsAreNotOne() {
        HostageRound x = new HostageRound();
        x.set(2, 0, 7);
        due.is("COUGHS of 2", x.set(2, 1, 1), 0);
        due.is("COLD of 2", x.set(2, 0, 0), 7);
        due.is("COUGHS of 2 yet", x.told(22), 1);
    }

    private static void promise04OneWhoIsDeadCoughsToo() {
        HostageRound x = due.live(new HostageRound(), "Ad", 1);
        due.is("it COUGHS", x.set(0, 1, 1), 0);
        due.is("told", x.told(20), 1);
    }

    // ---- 5 say

    private static void promise05OneBelowTheLeast() {
        due.refused("say(32)", OUTSIDE, x -> x.say(32));
    }

    private static void promise05OneAboveTheGreatest() {
        due.refused("say(127)", OUTSIDE, x -> x.say(127));
    }

    private static void promise05FarOutside() {
        due.refused("say(0)", OUTSIDE, x -> x.say(0));
        due.refused("say(-1)", OUTSIDE, x -> x.say(-1));
        due.refused("say(128)", OUTSIDE, x -> x.say(128));
        due.refused("say(256 and a point)", OUTSIDE, x -> x.say(256 + '.'));
        due.refused("say(MIN)", OUTSIDE, x -> x.say(Integer.MIN_VALUE));
        due.refused("say(MAX)", OUTSIDE, x -> x.say(Integer.MAX_VALUE));
    }

    private static void promise05TheLeastAndTheGreatest() {
        HostageRound x = new HostageRound();
        due.is("say(33)", x.say(33), 1);
        due.is("say(126)", x.say(126), 2);
        due.is("signs", x.told(0), 2);
    }

    private static void promise05SignsThatCanNotStandThereAreSaidToo() {
        HostageRound x = new HostageRound();
        int signs = 0;
        for (int sign = 33; sign <= 92; sign++) {
            signs++;
            due.is("say(" + sign + ")", x.say(sign), signs);
        }
    }

    private static void promise05TheSixtiethSignIsTheLast() {
        HostageRound x = Due.write(new HostageRound(), times(59, "."));
        due.is("the sixtieth", x.say(':'), 60);
        due.is("one more", x.say('.'), FULL);
        due.is("signs", x.told(0), 60);
        due.is("what they tell", x.day(), 69);
    }

    private static void promise05AFullPadIsNotChanged() {
        due.refused("say('.')", FULL, x -> Due.write(x, times(60, ".")), x -> x.say('.'));
        due.refused("say('A')", FULL, x -> Due.write(x, times(60, ":")), x -> x.say('A'));
    }

    private static void promise05OutsideComesAheadOfFull() {
        due.refused("say(32)", OUTSIDE, x -> Due.write(x, times(60, ".")), x -> x.say(32));
        due.refused("say(127)", OUTSIDE, x -> Due.write(x, times(60, ".")), x -> x.say(127));
    }

    // ---- 6 wipe

    private static void promise06AnEmptyPad() {
        HostageRound x = new HostageRound();
        due.is("wipe", x.wipe(), 0);
        due.is("wipe again", x.wipe(), 0);
        due.is("signs", x.told(0), 0);
    }

    private static void promise06AFullPad() {
        HostageRound x = Due.write(new HostageRound(), times(60, "A"));
        due.is("wipe", x.wipe(), 60);
        due.is("signs", x.told(0), 0);
        due.is("no FAULT", x.fault(), NONE);
        due.is("a sign again", x.say('.'), 1);
    }

    private static void promise06NothingElseGoes() {
        HostageRound x = Looks.busy();
        HostageRound other = Looks.busy();
        due.is("wipe", x.wipe(), 6);
        due.is("what the PAD of the other tells", other.done(), 4);
        due.is("the day is the same", x.told(3), 23);
        due.is("SIGHTS", x.told(6), 2);
        due.is("IMAGE 0", x.restore(0), 1);
    }

    // ---- 7 fault

    private static void promise07AnEmptyPadHasNone() {
        due.is("of nothing", faultOf(4, ""), NONE);
    }

    private static void promise07TheNumberOfSignsIfMoreMustCome() {
        due.is("of A", faultOf(4, "A"), 1);
        due.is("of .A", faultOf(4, ".A"), 2);
        due.is("of AsB", faultOf(4, "AsB"), 3);
    }

    private static void promise07MoreMustComeOnAFullPad() {
        due.is("of sixty signs", faultOf(4, times(59, ".") + "A"), 60);
    }

    private static void promise07TheLastSignOfAFullPad() {
        due.is("an ACT of one sign", faultOf(4, times(60, ".")), NONE);
        due.is("an ACT of two signs", faultOf(4, times(58, ".") + "As"), NONE);
        due.is("a sign that can not stand there", faultOf(4, times(59, ".") + "s"), 59);
        due.is("a sign that can not stand behind A", faultOf(4, times(58, ".") + "A."), 59);
    }

    private static void promise07TheFirstSign() {
        for (int n = 3; n <= 6; n++) {
            HostageRound x = Due.fresh(n, 90);
            for (int sign = 33; sign <= 126; sign++) {
                x.wipe();
                x.say(sign);
                int want = sign == '.' || sign == ':' || sign == ';' ? NONE : sign >= 'A' && sign <= 'A' + n - 1 ? 1 : 0;
                due.is("of " + (char) sign + " of " + n, x.fault(), want);
            }
        }
    }

    private static void promise07TheSignBehindALetter() {
        for (int n = 3; n <= 6; n++) {
            HostageRound x = Due.fresh(n, 90);
            for (int sign = 33; sign <= 126; sign++) {
                Due.write(x, "B");
                x.say(sign);
                boolean can = sign == 's' || sign == 'd' || sign == 'm' || sign >= 'A' && sign <= 'A' + n - 1;
                due.is("of B" + (char) sign + " of " + n, x.fault(), can ? NONE : 1);
            }
        }
    }

    private static void promise07ALetterOfAChildThatThereIsNot() {
        due.is("D of three, first", faultOf(3, "Ds"), 0);
        due.is("D of three, second", faultOf(3, "AD"), 1);
        due.is("D of four, first", faultOf(4, "Ds"), NONE);
        due.is("D of four, second", faultOf(4, "AD"), NONE);
        due.is("F of six", faultOf(6, "FsAF"), NONE);
        due.is("G of six, first", faultOf(6, "Gs"), 0);
        due.is("G of six, second", faultOf(6, "AG"), 1);
    }

    private static void promise07TheFirstOfTwo() {
        due.is("of .x.y", faultOf(4, ".x.y"), 1);
        due.is("of AsxAs", faultOf(4, "AsxAs"), 2);
        due.is("of A.A", faultOf(4, "A.A"), 1);
    }

    private static void promise07OneLetterTwiceIsNone() {
        due.is("of AA", faultOf(4, "AA"), NONE);
    }

    private static void promise07OneWhoIsDeadIsNone() {
        HostageRound x = due.live(new HostageRound(), "Ad", 1);
        due.is("of AsBA", Due.write(x, "AsBA").fault(), NONE);
    }

    private static void promise07TheLandsOfNowAreAsked() {
        HostageRound x = Due.write(Due.fresh(6, 90), ".Fs");
        due.is("of six", x.fault(), NONE);
        x.lands(5);
        due.is("of five", x.fault(), 1);
        x.lands(6);
        due.is("of six again", x.fault(), NONE);
    }

    // ---- 8 judge

    private static void promise08WhatIsOutside() {
        due.refused("judge(-1)", OUTSIDE, x -> x.judge(-1));
        due.refused("judge(2)", OUTSIDE, x -> x.judge(2));
        due.refused("judge(MIN)", OUTSIDE, x -> x.judge(Integer.MIN_VALUE));
        due.refused("judge(MAX)", OUTSIDE, x -> x.judge(Integer.MAX_VALUE));
    }

    private static void promise08AFault() {
        due.refused("judge(0)", NO, x -> Due.write(x, "A"), x -> x.judge(0));
        due.refused("judge(1)", NO, x -> Due.write(x, "..x"), x -> x.judge(1));
    }

    private static void promise08AFaultBehindAnActThatCanNotBe() {
        due.refused("judge(0)", NO, x -> Due.write(x, "AA.A"), x -> x.judge(0));
        due.refused("judge(1)", NO, x -> Due.write(x, "EsF"), x -> x.judge(1));
    }

    private static void promise08OutsideComesAheadOfNo() {
        due.refused("judge(2)", OUTSIDE, x -> Due.write(x, "A"), x -> x.judge(2));
        due.refused("judge(-1)", OUTSIDE, x -> Due.write(x, "A"), x -> x.judge(-1));
    }

    private static void promise08AnEmptyPad() {
        judged(new HostageRound(), "", NONE, NONE);
    }

    private static void promise08AllCanBe() {
        judged(new HostageRound(), "ABAsBmCd;.:", NONE, NONE);
        judged(new HostageRound(), "ABAsBmCd;AD.:", NONE, NONE);
    }

    private static void promise08TheFirstActIsNought() {
        judged(new HostageRound(), "AA", 0, 2);
        judged(due.live(new HostageRound(), "Ad", 1), "As", 0, 1);
        judged(due.live(new HostageRound(), ".", 1), "AB", 0, 3);
        judged(due.live(new HostageRound(), "As", 1), "Am", 0, 4);
    }

    private static void promise08ActsAreCountedNotSigns() {
        judged(new HostageRound(), "ABCD.AsAs", 4, 4);
    }

    private static void promise08TheLastActOfAFullPad() {
        judged(new HostageRound(), times(58, ".") + "AA", 58, 2);
        judged(new HostageRound(), times(29, "AB") + "AA", 29, 2);
        judged(new HostageRound(), times(30, "AB"), NONE, NONE);
        judged(new HostageRound(), times(60, ";"), NONE, NONE);
    }

    private static void promise08TheFirstOfTwo() {
        judged(new HostageRound(), ";AA.AB", 1, 2);
        judged(new HostageRound(), ".ABAA", 1, 3);
    }

    private static void promise08WhyOneIsDead() {
        judged(new HostageRound(), "AdAd", 1, 1);
        judged(new HostageRound(), "AdAs", 1, 1);
        judged(new HostageRound(), "AdAm", 1, 1);
        judged(new HostageRound(), "AdAB", 1, 1);
        judged(new HostageRound(), "AdBA", 1, 1);
    }

    private static void promise08WhyOneIsDeadIsTheLeast() {
        judged(new HostageRound(), "AdAA", 1, 1);
        judged(new HostageRound(), "Ad.AA", 2, 1);
        judged(new HostageRound(), "Ad.AB", 2, 1);
        judged(new HostageRound(), "Ad.BA", 2, 1);
        judged(new HostageRound(), "AsAdAs", 2, 1);
        judged(new HostageRound(), "AmAdAs", 2, 1);
    }

    private static void promise08WhyBothAreOneIsLessThanTheDay() {
        judged(new HostageRound(), ".AA", 1, 2);
    }

    private static void promise08WhyNotTheFirstDay() {
        HostageRound x = Due.fresh(4, 5);
        judged(x, "AB", NONE, NONE);
        judged(x, ".AB", 1, 3);
        judged(x, "....AB", 4, 3);
        judged(x, ".....AB", NONE, NONE);
        judged(x, "......AB", 6, 3);
        judged(x, ":AB", NONE, NONE);
        judged(x, ".;AB", NONE, NONE);
        judged(x, ":.AB", 2, 3);
    }

    private static void promise08NotTheFirstDayIsForHatsAlone() {
        judged(new HostageRound(), ".AsBmCd", NONE, NONE);
    }

    private static void promise08WhyHeIsBound() {
        judged(new HostageRound(), "AsAs", 1, 4);
        judged(new HostageRound(), "AsAm", 1, 4);
        judged(new HostageRound(), "AmAs", 1, 4);
        judged(new HostageRound(), "AmAm", 1, 4);
    }

    private static void promise08HeStaysTillTheEquinox() {
        HostageRound x = Due.fresh(4, 5);
        judged(x, "As....As", 5, 4);
        judged(x, "As.....As", NONE, NONE);
        judged(x, "As;Am", NONE, NONE);
    }

    private static void promise08HeIsMarriedForGood() {
        judged(new HostageRound(), "Am;As", 2, 4);
        judged(new HostageRound(), "Am;;;;;;Am", 7, 4);
    }

    private static void promise08OneWhoIsBoundDiesAndChangesHats() {
        judged(new HostageRound(), "AsBmABAdBd", NONE, NONE);
    }

    private static void promise08NothingIsDone() {
        HostageRound x = Due.write(Looks.busy(), "Ad;BsBm");
        HostageRound untouched = Due.write(Looks.busy(), "Ad;BsBm");
        due.is("judge(0)", x.judge(0), 3);
        due.is("judge(1)", x.judge(1), 4);
        Looks.compare(due, "judge", x, untouched);
    }

    // ---- 9 done

    private static void promise09AnEmptyPad() {
        HostageRound x = Looks.busy();
        HostageRound untouched = Looks.busy();
        x.wipe();
        untouched.wipe();
        due.is("done", x.done(), 0);
        Looks.compare(due, "done", x, untouched);
    }

    private static void promise09AFault() {
        due.refused("done of A", NO, x -> Due.write(x, "A"), HostageRound::done);
        due.refused("done of ;;x", NO, x -> Due.write(x, ";;x"), HostageRound::done);
        due.refused("done of Fs", NO, x -> Due.write(x, "Fs"), HostageRound::done);
    }

    private static void promise09AnActThatCanNotBe() {
        due.refused("done of AA", NO, x -> Due.write(x, "AA"), HostageRound::done);
        due.refused("done of ;;AdAd", NO, x -> Due.write(x, ";;AdAd"), HostageRound::done);
        due.refused("done of AB", NO, x -> Due.write(x, "AB"), HostageRound::done);
        due.refused("done of Cm", NO, x -> Due.write(x, "Cm"), HostageRound::done);
    }

    private static void promise09AFullPad() {
        HostageRound x = Due.fresh(4, 99);
        due.live(x, times(60, ";"), 60);
        due.is("the day", x.told(3), 5940);
        due.is("the season", x.told(4), 60);
        due.live(x, times(30, "As"), NO);
        due.live(x, times(30, "AB"), 30);
        due.is("A has its NAME again", x.state(0, 1), 0);
        due.live(x, times(60, "."), 60);
        due.is("the day", x.told(3), 6000);
    }

    private static void promise09ThePadIsEmptyThen() {
        HostageRound x = due.live(new HostageRound(), "..As", 3);
        due.is("signs", x.told(0), 0);
        due.is("no FAULT", x.fault(), NONE);
        due.is("done again", x.done(), 0);
        due.is("the day is the same", x.told(3), 2);
    }

    private static void promise09AllIsSoThen() {
        HostageRound x = due.live(new HostageRound(), "AB;CsDmAd.", 6);
        due.is("the day", x.told(3), 91);
        due.is("the season", x.told(4), 1);
        due.is("A is nowhere", x.state(0, 0), NONE);
        due.is("A bears the NAME that it had", x.state(0, 1), 1);
        due.is("B has A's", x.state(1, 1), 0);
        due.is("B went", x.state(1, 0), 3);
        due.is("C STAYS", x.state(2, 2), 1);
        due.is("D is married", x.state(3, 2), 2);
        due.is("who lives", x.told(5), 14);
    }

    private static void promise09TheRestOfASeasonOnItsFirstDay() {
        HostageRound x = due.live(Due.fresh(4, 5), ";", 1);
        due.is("the day", x.told(3), 5);
        due.is("the first of a season", x.letter(1, 0), 5);
        due.is("A went", x.state(0, 0), 2);
    }

    private static void promise09TheRestOfASeasonOnItsLastDay() {
        HostageRound x = due.live(Due.fresh(4, 5), "....;", 5);
        due.is("the day", x.told(3), 5);
        due.is("the season", x.told(4), 1);
        due.is("the first of a season", x.letter(1, 0), 5);
        due.is("A went", x.state(0, 0), 2);
    }

    private static void promise09ADayOnTheLastDay() {
        HostageRound x = due.live(Due.fresh(4, 5), "....", 4);
        due.is("A is where it was", x.state(0, 0), 1);
        due.is("a day to the equinox", x.letter(1, 0), 1);
        due.live(x, ".", 1);
        due.is("A went", x.state(0, 0), 2);
        due.is("the season", x.told(4), 1);
    }

    private static void promise09TenDaysInSeasonsOfTen() {
        HostageRound x = due.live(Due.fresh(4, 10), ":", 1);
        due.is("the day", x.told(3), 10);
        due.is("the season", x.told(4), 1);
        due.is("the first of a season", x.letter(1, 0), 10);
        x = due.live(Due.fresh(4, 11), ":", 1);
        due.is("the season is not over", x.told(4), 0);
        due.is("a day to the equinox", x.letter(1, 0), 1);
    }

    private static void promise09TenDaysInSeasonsOfOne() {
        HostageRound x = due.live(Due.fresh(4, 1), "As:", 2);
        due.is("the day", x.told(3), 10);
        due.is("the season", x.told(4), 10);
        due.is("A went nine times, round again", x.state(0, 0), 1);
        due.is("B went ten times: to 3", x.state(1, 0), 3);
        due.is("A STAYS no more", x.state(0, 2), 0);
    }

    private static void promise09PastItsOwnLand() {
        HostageRound x = due.live(new HostageRound(), ";;", 2);
        due.is("A in 3", x.state(0, 0), 3);
        due.live(x, ";", 1);
        due.is("A goes past 0", x.state(0, 0), 1);
        due.is("B in 2 again", x.state(1, 0), 2);
        x = due.live(Due.fresh(3, 90), ";", 1);
        due.is("C of three in 1", x.state(2, 0), 1);
        due.live(x, ";", 1);
        due.is("C goes past 2, and round", x.state(2, 0), 0);
    }

    private static void promise09PastItsOwnLandIsTheFirstOne() {
        HostageRound x = due.live(Due.fresh(6, 90), times(4, ";"), 4);
        due.is("A in the last LAND", x.state(0, 0), 5);
        due.live(x, ";", 1);
        due.is("A goes past the first one", x.state(0, 0), 1);
    }

    private static void promise09PastItsOwnLandIsTheLastOne() {
        HostageRound x = due.live(Due.fresh(6, 90), times(4, ";"), 4);
        due.is("F in the last but one", x.state(5, 0), 4);
        due.live(x, ";", 1);
        due.is("F goes past the last one", x.state(5, 0), 0);
    }

    private static void promise09StaysAtTheNextEquinoxAlone() {
        HostageRound x = due.live(new HostageRound(), "As;", 2);
        due.is("A stayed", x.state(0, 0), 1);
        due.live(x, ";", 1);
        due.is("A goes", x.state(0, 0), 2);
        due.live(x, "As;As;As;", 6);
        due.is("A stayed three times more", x.state(0, 0), 2);
    }

    private static void promise09HatsAmongThree() {
        HostageRound x = due.live(new HostageRound(), "ABBC", 2);
        due.is("A bears B's", x.state(0, 1), 1);
        due.is("B bears C's", x.state(1, 1), 2);
        due.is("C bears A's", x.state(2, 1), 0);
    }

    // ---- 10 state

    private static void promise10NoSuchChild() {
        due.refused("state(-1, 0)", UNKNOWN, x -> x.state(-1, 0));
        due.refused("state(5, 0)", UNKNOWN, x -> x.state(5, 0));
        due.refused("state(MIN, 0)", UNKNOWN, x -> x.state(Integer.MIN_VALUE, 0));
        due.refused("state(MAX, 0)", UNKNOWN, x -> x.state(Integer.MAX_VALUE, 0));
    }

    private static void promise10WhatIsOutside() {
        due.refused("state(0, -1)", OUTSIDE, x -> x.state(0, -1));
        due.refused("state(0, 3)", OUTSIDE, x -> x.state(0, 3));
    }

    private static void promise10UnknownComesAheadOfOutside() {
        due.refused("state(5, 3)", UNKNOWN, x -> x.state(5, 3));
        due.refused("state(-1, -1)", UNKNOWN, x -> x.state(-1, -1));
    }

    private static void promise10TheFirstAndTheLastChild() {
        for (int n = 3; n <= 6; n++) {
            HostageRound x = Due.fresh(n, 90);
            due.is("A of " + n, x.state(0, 0), 1);
            due.is("the last of " + n, x.state(n - 1, 0), 0);
            due.is("its NAME", x.state(n - 1, 1), n - 1);
            due.is("none behind it", x.state(n, 0), UNKNOWN);
        }
    }

    private static void promise10OneWhoIsDeadIsNowhere() {
        HostageRound x = due.live(new HostageRound(), "ABAd", 2);
        due.is("the LAND", x.state(0, 0), NONE);
        due.is("the NAME that he had", x.state(0, 1), 1);
        due.is("the bond", x.state(0, 2), 0);
        due.is("OUTSIDE of him", x.state(0, 3), OUTSIDE);
    }

    private static void promise10OneWhoIsDeadStaysAsIfHeLived() {
        HostageRound x = due.live(Due.fresh(4, 5), "AsAd....", 6);
        due.is("on the last day", x.state(0, 2), 1);
        due.live(x, ".", 1);
        due.is("on the first day behind it", x.state(0, 2), 0);
    }

    private static void promise10OneWhoIsDeadIsMarriedAsIfHeLived() {
        HostageRound x = due.live(new HostageRound(), "AmAd;;", 4);
        due.is("the bond", x.state(0, 2), 2);
    }

    private static void promise10StaysTillTheLastDay() {
        HostageRound x = due.live(Due.fresh(4, 5), ".As...", 5);
        due.is("on the last day", x.state(0, 2), 1);
        due.live(x, ".", 1);
        due.is("on the first day behind it", x.state(0, 2), 0);
        due.is("the LAND", x.state(0, 0), 1);
    }

    private static void promise10MarriedForGood() {
        HostageRound x = due.live(new HostageRound(), "Am;;;;;", 6);
        due.is("the bond", x.state(0, 2), 2);
        due.is("the LAND", x.state(0, 0), 1);
    }

    // ---- 11 behind

    private static void promise11NoSuchChild() {
        due.refused("behind(-1, 0)", UNKNOWN, x -> x.behind(-1, 0));
        due.refused("behind(5, 0)", UNKNOWN, x -> x.behind(5, 0));
        due.refused("behind(MIN, 0)", UNKNOWN, x -> x.behind(Integer.MIN_VALUE, 0));
        due.refused("behind(MAX, 0)", UNKNOWN, x -> x.behind(Integer.MAX_VALUE, 0));
    }

    private static void promise11WhatIsOutside() {
        due.refused("behind(0, -1)", OUTSIDE, x -> x.behind(0, -1));
        due.refused("behind(0, 3)", OUTSIDE, x -> x.behind(0, 3));
    }

    private static void promise11AFault() {
        due.refused("behind(0, 0)", NO, x -> Due.write(x, "A"), x -> x.behind(0, 0));
        due.refused("behind(0, 1)", NO, x -> Due.write(x, ".s"), x -> x.behind(0, 1));
        due.refused("behind(0, 2)", NO, x -> Due.write(x, "AF"), x -> x.behind(0, 2));
    }

    private static void promise11AnActThatCanNotBe() {
        due.refused("behind(0, 0)", NO, x -> Due.write(x, ";;BB"), x -> x.behind(0, 0));
        due.refused("behind(0, 1)", NO, x -> Due.write(x, "AB"), x -> x.behind(0, 1));
        due.refused("behind(0, 2)", NO, x -> Due.write(x, "Es"), x -> x.behind(0, 2));
    }

    private static void promise11UnknownComesAheadOfOutside() {
        due.refused("behind(5, 3)", UNKNOWN, x -> x.behind(5, 3));
    }

    private static void promise11UnknownComesAheadOfNo() {
        due.refused("behind(5, 0)", UNKNOWN, x -> Due.write(x, "A"), x -> x.behind(5, 0));
        due.refused("behind(-1, 3)", UNKNOWN, x -> Due.write(x, "AA"), x -> x.behind(-1, 3));
    }

    private static void promise11OutsideComesAheadOfNo() {
        due.refused("behind(0, 3)", OUTSIDE, x -> Due.write(x, "A"), x -> x.behind(0, 3));
        due.refused("behind(0, -1)", OUTSIDE, x -> Due.write(x, "AA"), x -> x.behind(0, -1));
    }

    private static void promise11AnEmptyPad() {
        HostageRound x = due.live(new HostageRound(), "AB;;", 3);
        due.is("the LAND", x.behind(0, 0), 3);
        due.is("the NAME", x.behind(0, 1), 1);
        due.is("how often it went", x.behind(0, 2), 0);
    }

    private static void promise11NothingIsDone() {
        HostageRound x = Looks.busy();
        HostageRound untouched = Looks.busy();
        due.is("the LAND", x.behind(0, 0), 1);
        due.is("the NAME", x.behind(0, 1), 2);
        due.is("how often it went", x.behind(0, 2), 1);
        Looks.compare(due, "behind", x, untouched);
    }

    private static void promise11EquinoxesOfTheseYearsAlone() {
        HostageRound x = due.live(new HostageRound(), ";;;", 3);
        Due.write(x, ";");
        due.is("once", x.behind(0, 2), 1);
        due.is("once, asked again", x.behind(0, 2), 1);
        Due.write(x, ".");
        due.is("not once", x.behind(0, 2), 0);
    }

    private static void promise11ADayAheadOfTheEquinoxAndOnIt() {
        HostageRound x = Due.fresh(4, 3);
        Due.write(x, "..");
        due.is("the LAND on the last day", x.behind(0, 0), 1);
        due.is("it did not go", x.behind(0, 2), 0);
        Due.write(x, "...");
        due.is("the LAND on the first day", x.behind(0, 0), 2);
        due.is("it went", x.behind(0, 2), 1);
    }

    private static void promise11PastItsOwnLandIsOneEquinox() {
        HostageRound x = Due.write(new HostageRound(), ";;;");
        due.is("the LAND", x.behind(0, 0), 1);
        due.is("how often it went", x.behind(0, 2), 3);
    }

    private static void promise11OneWhoStaysDoesNotGo() {
        HostageRound x = Due.write(new HostageRound(), "As;;;");
        due.is("the LAND", x.behind(0, 0), 3);
        due.is("how often it went", x.behind(0, 2), 2);
        due.is("how often another went", x.behind(1, 2), 3);
    }

    private static void promise11OneWhoIsMarriedDoesNotGo() {
        HostageRound x = Due.write(new HostageRound(), ";Am;;;");
        due.is("the LAND", x.behind(0, 0), 2);
        due.is("how often it went", x.behind(0, 2), 1);
    }

    private static void promise11OneWhoDies() {
        HostageRound x = Due.write(new HostageRound(), ";;AB;Ad;;");
        due.is("the LAND", x.behind(0, 0), NONE);
        due.is("the NAME", x.behind(0, 1), 1);
        due.is("how often it went", x.behind(0, 2), 3);
        due.is("B's NAME", x.behind(1, 1), 0);
        due.is("how often B went", x.behind(1, 2), 5);
    }

    private static void promise11OneWhoWasDead() {
        HostageRound x = due.live(new HostageRound(), "Ad", 1);
        Due.write(x, ";;");
        due.is("the LAND", x.behind(0, 0), NONE);
        due.is("how often it went", x.behind(0, 2), 0);
    }

    private static void promise11AFullPad() {
        HostageRound x = Due.write(Due.fresh(6, 1), times(60, ":"));
        due.is("how often it went", x.behind(0, 2), 600);
        due.is("the LAND", x.behind(0, 0), 1);
    }

    // ---- 12 day

    private static void promise12AFault() {
        due.refused("day of A", NO, x -> Due.write(x, "A"), HostageRound::day);
        due.refused("day of ..s", NO, x -> Due.write(x, "..s"), HostageRound::day);
    }

    private static void promise12AnActThatCanNotBe() {
        due.refused("day of AA", NO, x -> Due.write(x, "AA"), HostageRound::day);
        due.refused("day of ;;Es", NO, x -> Due.write(x, ";;Es"), HostageRound::day);
    }

    private static void promise12AnEmptyPad() {
        due.is("at first", new HostageRound().day(), 0);
        due.is("later", due.live(new HostageRound(), ":.", 2).day(), 11);
    }

    private static void promise12TheRestOfASeason() {
        HostageRound x = Due.fresh(4, 12);
        due.is("on its first day", Due.write(x, ";").day(), 12);
        due.is("on its second day", Due.write(x, ".;").day(), 12);
        due.is("on its last day", Due.write(x, ":.;").day(), 12);
        due.is("on the first day behind it", Due.write(x, ":..;").day(), 24);
    }

    private static void promise12ADayAndTenDays() {
        HostageRound x = Due.fresh(4, 99);
        due.is("a day", Due.write(x, ".").day(), 1);
        due.is("ten days", Due.write(x, ":").day(), 10);
        due.is("six hundred", Due.write(x, times(60, ":")).day(), 600);
    }

    private static void promise12WhatTakesNoDay() {
        due.is("hats, stays, marriages, deaths", Due.write(new HostageRound(), "ABAsBmCd").day(), 0);
    }

    private static void promise12NothingIsDone() {
        HostageRound x = Looks.busy();
        HostageRound untouched = Looks.busy();
        due.is("day", x.day(), 29);
        due.is("day again", x.day(), 29);
        Looks.compare(due, "day", x, untouched);
    }
}
