/** Promises 34 to 36: for each sentence that names an edge a test of its own. */
public final class EdgesOfImagesTest {
    private static final int NONE = -6, OUTSIDE = -2, STATE = -3;
    private static final int MIN = Integer.MIN_VALUE, MAX = Integer.MAX_VALUE;
    private static final Due due = new Due();

    public static void main(String[] args) throws IllegalAccessException {
        due.run(EdgesOfImagesTest.class, 34, 36);
        due.end();
    }

    /** The refusal of a restore on an object that looks as it looked when it was new. */
    private static void refusedAtFirst(String call, int refusal, Due.Call restore) {
        HostageRound x = new HostageRound();
        due.is(call, restore.on(x), refusal);
        due.same(call, Looks.all(x), Looks.all(new HostageRound()));
        due.is("IMAGE 0 is not kept by it", x.restore(0), STATE);
        due.is("IMAGE 1 is not kept by it", x.restore(1), STATE);
    }

    // ---- 34 image

    private static void promise34OneBelowTheLeast() {
        due.refused("image(-1)", OUTSIDE, x -> x.image(-1));
        due.refused("image(MIN)", OUTSIDE, x -> x.image(MIN));
    }

    private static void promise34OneAboveTheGreatest() {
        due.refused("image(2)", OUTSIDE, x -> x.image(2));
        due.refused("image(MAX)", OUTSIDE, x -> x.image(MAX));
    }

    private static void promise34OneThatIsRefusedKeepsNothing() {
        refusedAtFirst("image(-1)", OUTSIDE, x -> x.image(-1));
        refusedAtFirst("image(2)", OUTSIDE, x -> x.image(2));
    }

    private static void promise34TheFirstAlone() {
        HostageRound x = new HostageRound();
        due.is("image(0)", x.image(0), 1);
        due.is("the other is not kept", x.restore(1), STATE);
        due.is("it is", x.restore(0), 1);
    }

    private static void promise34TheSecondAlone() {
        HostageRound x = new HostageRound();
        due.is("image(1)", x.image(1), 1);
        due.is("the other is not kept", x.restore(0), STATE);
        due.is("it is", x.restore(1), 1);
    }

    private static void promise34AllButThePad() {
        HostageRound x = Looks.busy();
        HostageRound untouched = Looks.busy();
        due.is("image(0)", x.image(0), 1);
        x.lands(6);
        x.season(50);
        x.seen(5, true);
        due.is("restore(0)", x.restore(0), 1);
        due.same("what was kept", Looks.all(x), Looks.all(untouched));
    }

    private static void promise34NothingElseIsChanged() {
        HostageRound x = Looks.busy();
        HostageRound untouched = Looks.busy();
        due.is("image(0)", x.image(0), 1);
        due.same("what goes on", Looks.all(x), Looks.all(untouched));
        due.is("the other", x.restore(1), untouched.restore(1));
        due.same("the other", Looks.all(x), Looks.all(untouched));
    }

    private static void promise34KeptAgain() {
        HostageRound x = new HostageRound();
        x.image(0);
        due.live(x, ".", 1);
        due.is("image(0) again", x.image(0), 1);
        due.live(x, ".", 1);
        due.is("restore(0)", x.restore(0), 1);
        due.is("the later day", x.told(3), 1);
    }

    private static void promise34WhatGoesOnIsNoPartOfIt() {
        HostageRound x = new HostageRound();
        x.image(0);
        x.set(0, 0, 9);
        x.set(0, 1, 1);
        x.seen(0, true);
        x.season(5);
        due.live(x, "ABCdAsBm;", 5);
        x.restore(0);
        due.same("an object as it was at first", Looks.all(x), Looks.all(new HostageRound()));
    }

    // ---- 35 restore

    private static void promise35OneBelowTheLeast() {
        due.refused("restore(-1)", OUTSIDE, x -> x.restore(-1));
        due.refused("restore(MIN)", OUTSIDE, x -> x.restore(MIN));
    }

    private static void promise35OneAboveTheGreatest() {
        due.refused("restore(2)", OUTSIDE, x -> x.restore(2));
        due.refused("restore(MAX)", OUTSIDE, x -> x.restore(MAX));
    }

    private static void promise35OutsideComesAheadOfState() {
        refusedAtFirst("restore(-1)", OUTSIDE, x -> x.restore(-1));
        refusedAtFirst("restore(2)", OUTSIDE, x -> x.restore(2));
    }

    private static void promise35ItWasNotKept() {
        refusedAtFirst("restore(0)", STATE, x -> x.restore(0));
        refusedAtFirst("restore(1)", STATE, x -> x.restore(1));
    }

    private static void promise35TheOtherWasKept() {
        HostageRound x = new HostageRound();
        x.image(1);
        due.live(x, "As.", 2);
        due.is("restore(0)", x.restore(0), STATE);
        due.is("the day is the same", x.told(3), 1);
        due.is("A STAYS yet", x.state(0, 2), 1);
    }

    private static void promise35ThePadIsNotChanged() {
        HostageRound x = Due.write(new HostageRound(), ";");
        x.image(0);
        Due.write(x, "As.");
        due.is("restore(0)", x.restore(0), 1);
        due.is("signs", x.told(0), 3);
        due.is("what they tell", x.day(), 1);
    }

    private static void promise35ThePadIsReadByTheLandsThatWere() {
        HostageRound x = new HostageRound();
        x.image(0);
        x.lands(6);
        Due.write(x, ".Fs");
        due.is("of six", x.fault(), NONE);
        x.restore(0);
        due.is("of four", x.fault(), 1);
    }

    private static void promise35Twice() {
        HostageRound x = Looks.busy();
        due.is("restore(1)", x.restore(1), 1);
        due.live(x, "Ad;", 2);
        x.set(0, 0, 9);
        due.is("restore(1) again", x.restore(1), 1);
        HostageRound other = Looks.busy();
        other.restore(1);
        other.wipe();
        due.same("as it was", Looks.all(x), Looks.all(other));
    }

    private static void promise35TheOtherImageIsKept() {
        HostageRound x = Looks.busy();
        HostageRound other = Looks.busy();
        x.restore(0);
        due.is("restore(1)", x.restore(1), 1);
        other.restore(1);
        due.same("IMAGE 1", Looks.all(x), Looks.all(other));
    }

    private static void promise35LandsAndLongComeBack() {
        HostageRound x = Looks.busy();
        due.is("restore(0)", x.restore(0), 1);
        due.is("LANDS", x.told(1), 3);
        due.is("LONG", x.told(2), 4);
        due.is("the day", x.told(3), 5);
        due.is("the season", x.told(4), 1);
        due.is("it is the second day of a season", x.season(5), STATE);
        due.is("SIGHTS", x.told(6), 1);
        due.is("COLD of 2", x.told(12), 5);
        due.is("none of 3", x.told(13), OUTSIDE);
    }

    private static void promise35WhatLaterLandsHadDoesNotComeBack() {
        // IMAGE 0 has three LANDS, COLD and COUGHS of the others are of no LAND there
        HostageRound x = Looks.busy();
        x.restore(0);
        x.lands(5);
        due.is("COLD of 4", x.told(14), 0);
        due.is("whether D COUGHS", x.told(23), 0);
        due.is("D's NAME", x.state(3, 1), 3);
    }

    // ---- 36 told

    private static void promise36OneBelowTheLeast() {
        due.refused("told(-1)", OUTSIDE, x -> x.told(-1));
        due.refused("told(MIN)", OUTSIDE, x -> x.told(MIN));
    }

    private static void promise36BetweenSightsAndCold() {
        due.refused("told(7)", OUTSIDE, x -> x.told(7));
        due.refused("told(8)", OUTSIDE, x -> x.told(8));
        due.refused("told(9)", OUTSIDE, x -> x.told(9));
    }

    private static void promise36BehindTheLastLand() {
        due.refused("told(15) of five LANDS", OUTSIDE, x -> x.told(15));
        for (int n = 3; n <= 6; n++) {
            HostageRound x = Due.fresh(n, 90);
            for (int land = 0; land < 10; land++) {
                due.is("COLD of " + land + " of " + n, x.told(10 + land), land < n ? 0 : OUTSIDE);
            }
        }
    }

    private static void promise36BehindTheLastChild() {
        due.refused("told(25) of five CHILDREN", OUTSIDE, x -> x.told(25));
        for (int n = 3; n <= 6; n++) {
            HostageRound x = Due.fresh(n, 90);
            for (int child = 0; child < 10; child++) {
                due.is("whether " + child + " of " + n + " COUGHS", x.told(20 + child), child < n ? 0 : OUTSIDE);
            }
        }
    }

    private static void promise36FarOutside() {
        due.refused("told(26)", OUTSIDE, x -> x.told(26));
        due.refused("told(30)", OUTSIDE, x -> x.told(30));
        due.refused("told(MAX)", OUTSIDE, x -> x.told(MAX));
    }

    private static void promise36TheLeastIsSigns() {
        HostageRound x = new HostageRound();
        due.is("an empty PAD", x.told(0), 0);
        due.is("a full one", Due.write(x, ".".repeat(60)).told(0), 60);
    }

    private static void promise36TheFirstAndTheLastLandAndChild() {
        HostageRound x = Due.fresh(6, 90);
        x.set(0, 0, 9);
        x.set(5, 0, 8);
        x.set(0, 1, 1);
        x.set(5, 1, 1);
        int[] cold = {9, 0, 0, 0, 0, 8};
        int[] coughs = {1, 0, 0, 0, 0, 1};
        for (int k = 0; k < 6; k++) {
            due.is("COLD of " + k, x.told(10 + k), cold[k]);
            due.is("whether it COUGHS " + k, x.told(20 + k), coughs[k]);
        }
    }

    private static void promise36NobodyLives() {
        due.is("bits", due.live(new HostageRound(), "AdBdCd", 3).told(5), 8);
        due.is("none", due.live(new HostageRound(), "AdBdCdDd", 4).told(5), 0);
    }

    private static void promise36TheSeasonTurnsOnTheEquinox() {
        HostageRound x = due.live(Due.fresh(4, 5), "....", 4);
        due.is("on the last day", x.told(4), 0);
        due.live(x, ".", 1);
        due.is("on the first day behind it", x.told(4), 1);
        due.is("the day", x.told(3), 5);
    }

    private static void promise36TheSeasonWhenLongIsChanged() {
        HostageRound x = due.live(Due.fresh(4, 5), ";;", 2);
        x.season(99);
        due.is("the season", x.told(4), 2);
        due.live(x, ";", 1);
        due.is("the season", x.told(4), 3);
        due.is("the day", x.told(3), 109);
    }
}
