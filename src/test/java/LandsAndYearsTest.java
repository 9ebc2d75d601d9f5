/** Promises 1 to 12: lands, seasons, the PAD, YEARS judged, done and looked behind. */
public final class LandsAndYearsTest {
    private static final Due due = new Due();

    public static void main(String[] args) {
        aNewObject();
        lands();
        season();
        set();
        sayAndWipe();
        fault();
        judge();
        done();
        state();
        behind();
        day();
        due.end();
    }

    private static void aNewObject() {
        HostageRound x = new HostageRound();
        int[] first = {0, 4, 90, 0, 0, 15, 0};
        for (int what = 0; what < first.length; what++) {
            due.is("new told " + what, x.told(what), first[what]);
        }
        for (int k = 0; k < 4; k++) {
            due.is("new cold " + k, x.told(10 + k), 0);
            due.is("new coughs " + k, x.told(20 + k), 0);
            due.is("new land " + k, x.state(k, 0), (k + 1) % 4);
            due.is("new name " + k, x.state(k, 1), k);
            due.is("new bond " + k, x.state(k, 2), 0);
        }
    }

    private static void lands() {
        HostageRound x = new HostageRound();
        due.is("lands 3", x.lands(3), 4);
        due.is("lands 6", x.lands(6), 3);
        due.is("lands 2", x.lands(2), -2);
        due.is("lands 7", x.lands(7), -2);
        due.is("lands -4", x.lands(-4), -2);
        due.is("lands refused change nothing", x.told(1), 6);
        x.season(7);
        x.set(5, 0, 4);
        x.set(5, 1, 1);
        x.seen(2, true);
        due.live(x, "ABFs;.BdCm", 6);
        Due.write(x, "zz");
        x.image(1);
        due.is("lands anew", x.lands(6), 6);
        int[] anew = {2, 6, 7, 0, 0, 63, 0};
        for (int what = 0; what < anew.length; what++) {
            due.is("anew told " + what, x.told(what), anew[what]);
        }
        due.is("cold anew", x.told(15), 0);
        due.is("coughs anew", x.told(25), 0);
        for (int k = 0; k < 6; k++) {
            due.is("land anew " + k, x.state(k, 0), (k + 1) % 6);
            due.is("name anew " + k, x.state(k, 1), k);
            due.is("bond anew " + k, x.state(k, 2), 0);
        }
        due.is("first day anew", x.season(8), 7);
        due.is("the image is kept", x.restore(1), 1);
        due.is("of the image: living", x.told(5), 61);
        due.is("of the image: LONG", x.told(2), 7);
        due.is("of the image: not a first day", x.season(8), -3);
    }

    private static void season() {
        HostageRound x = new HostageRound();
        due.is("season 1", x.season(1), 90);
        due.is("season 99", x.season(99), 1);
        due.is("season 0", x.season(0), -2);
        due.is("season 100", x.season(100), -2);
        due.is("LONG is as it was", x.told(2), 99);
        due.is("last day of a long season", x.where(0, 98), 1);
        due.is("first day behind it", x.where(0, 99), 2);
        due.live(x, ".", 1);
        due.is("season in a season", x.season(5), -3);
        due.is("OUTSIDE before STATE", x.season(0), -2);
        due.is("LONG is as it was yet", x.told(2), 99);
        due.live(x, ";", 1);
        due.is("season on a first day", x.season(5), 99);
        due.is("the day goes on", x.told(3), 99);
        due.is("short season", x.where(0, 5), 3);
    }

    private static void set() {
        HostageRound x = new HostageRound();
        due.is("cold 9", x.set(3, 0, 9), 0);
        due.is("cold 0", x.set(3, 0, 0), 9);
        due.is("coughs", x.set(3, 1, 1), 0);
        due.is("coughs told", x.told(23), 1);
        due.is("coughs no more", x.set(3, 1, 0), 1);
        due.is("cold 2", x.set(0, 0, 2), 0);
        due.is("one of the other", x.told(20), 0);
        due.is("no land 4", x.set(4, 0, 0), -1);
        due.is("no land -1", x.set(-1, 0, 0), -1);
        due.is("UNKNOWN before OUTSIDE", x.set(4, 7, 77), -1);
        due.is("which 2", x.set(0, 2, 0), -2);
        due.is("which -1", x.set(0, -1, 0), -2);
        due.is("cold 10", x.set(0, 0, 10), -2);
        due.is("cold -1", x.set(0, 0, -1), -2);
        due.is("coughs 2", x.set(0, 1, 2), -2);
        due.is("coughs -1", x.set(0, 1, -1), -2);
        due.is("cold is as it was", x.told(10), 2);
        due.live(x, "Ad", 1);
        due.is("a dead one coughs", x.set(0, 1, 1), 0);
        x.lands(6);
        due.is("land 5 of 6", x.set(5, 0, 1), 0);
    }

    private static void sayAndWipe() {
        HostageRound x = new HostageRound();
        due.is("say 33", x.say(33), 1);
        due.is("say 126", x.say(126), 2);
        due.is("say 32", x.say(32), -2);
        due.is("say 127", x.say(127), -2);
        for (int i = 3; i <= 60; i++) {
            due.is("say " + i, x.say('.'), i);
        }
        due.is("say on a full PAD", x.say('.'), -4);
        due.is("OUTSIDE before FULL", x.say(32), -2);
        due.is("signs told", x.told(0), 60);
        due.is("wipe", x.wipe(), 60);
        due.is("wipe again", x.wipe(), 0);
        due.is("say anew", x.say('.'), 1);
    }

    private static void fault() {
        int[] four = {-6, -6, -6, 1, 1, 0, 1, 0, 0, 2, 2, -6, 4, -6, 1, 0, 3};
        String[] texts = {"", ".", "AA", "A", "Ax", "E", "AE", "a", "Es", ".A.", ";;s", ".:;ABAsAdAm", "As.D",
            "DsDdDmDC", "AF", "@s", "As:*"};
        for (int i = 0; i < texts.length; i++) {
            due.is("fault of " + texts[i], Due.write(new HostageRound(), texts[i]).fault(), four[i]);
        }
        HostageRound x = Due.write(new HostageRound(), "Es");
        x.lands(5);
        due.is("CHILD E of five", x.fault(), -6);
        x.lands(3);
        due.is("no CHILD E of three", x.fault(), 0);
        StringBuilder full = new StringBuilder("A");
        for (int i = 1; i < 60; i++) {
            full.insert(0, '.');
        }
        due.is("more must come on a full PAD", Due.write(x, full.toString()).fault(), 60);
    }

    private static void judged(HostageRound x, String text, int act, int why) {
        Due.write(x, text);
        due.is("judge(0) of " + text, x.judge(0), act);
        due.is("judge(1) of " + text, x.judge(1), why);
        due.is("signs of " + text, x.told(0), text.length());
    }

    private static void judge() {
        HostageRound x = new HostageRound();
        judged(x, "", -6, -6);
        judged(x, "AB;:.AsBmCd", -6, -6);
        judged(x, "AA", 0, 2);
        judged(x, "AdAA", 1, 1);
        judged(x, "AdBA", 1, 1);
        judged(x, "AdAB", 1, 1);
        judged(x, ".AB", 1, 3);
        judged(x, ".AA", 1, 2);
        judged(x, ".AdAB", 2, 1);
        judged(x, ":;AB", -6, -6);
        judged(x, "AsAs", 1, 4);
        judged(x, "AsAm", 1, 4);
        judged(x, "AmAs", 1, 4);
        judged(x, "AmAm", 1, 4);
        judged(x, "As;As", -6, -6);
        judged(x, "As;AmAm", 3, 4);
        judged(x, "Am;As", 2, 4);
        judged(x, "AsAdAs", 2, 1);
        judged(x, "AmAdAm", 2, 1);
        judged(x, "AdAd", 1, 1);
        judged(x, "AsAd", -6, -6);
        judged(x, "AmAd", -6, -6);
        judged(x, "AsBmAB", -6, -6);
        judged(x, "AAAdAd", 0, 2);
        due.is("judge(2)", x.judge(2), -2);
        due.is("judge(-1)", x.judge(-1), -2);
        Due.write(x, "AAA");
        due.is("OUTSIDE before NO", x.judge(2), -2);
        due.is("a FAULT, 0", x.judge(0), -5);
        due.is("a FAULT, 1", x.judge(1), -5);
        x.season(10);
        judged(x, ":AB", -6, -6);
        x.season(1);
        judged(x, ".AB:AB", -6, -6);
        judged(x, "As.As", -6, -6);
    }

    private static void done() {
        HostageRound x = new HostageRound();
        due.is("done of an empty PAD", x.done(), 0);
        due.live(x, ";AB.CsDd", 5);
        due.is("the PAD is empty", x.told(0), 0);
        due.is("the day", x.told(3), 91);
        due.is("the season", x.told(4), 1);
        due.is("who lives", x.told(5), 7);
        due.is("hats", x.state(0, 1), 1);
        due.is("hats back", x.state(1, 1), 0);
        due.is("stays", x.state(2, 2), 1);
        Due.write(x, "..AdA");
        due.is("done with a FAULT", x.done(), -5);
        due.is("nothing is done", x.told(3), 91);
        due.is("the PAD is as it was", x.told(0), 5);
        Due.write(x, "..AdAd");
        due.is("done with an ACT that can not be", x.done(), -5);
        due.is("nothing is done", x.told(3), 91);
        due.is("all live who lived", x.told(5), 7);
        due.is("the PAD is as it was", x.told(0), 6);
    }

    private static void state() {
        HostageRound x = new HostageRound();
        due.is("no CHILD 4", x.state(4, 9), -1);
        due.is("no CHILD -1", x.state(-1, 0), -1);
        due.is("what 3", x.state(0, 3), -2);
        due.is("what -1", x.state(0, -1), -2);
        due.live(x, "AsAdBmBdCs", 5);
        due.is("a dead one's land", x.state(0, 0), -6);
        due.is("a dead one's name", x.state(0, 1), 0);
        due.is("a dead one STAYS", x.state(0, 2), 1);
        due.is("a dead one is married", x.state(1, 2), 2);
        due.is("one who STAYS", x.state(2, 2), 1);
        due.live(x, ";", 1);
        due.is("as if he lived", x.state(0, 2), 0);
        due.is("married for good", x.state(1, 2), 2);
        due.is("he stayed", x.state(2, 0), 3);
        due.is("he STAYS no more", x.state(2, 2), 0);
        due.live(x, ";", 1);
        due.is("he goes past no own land", x.state(2, 0), 0);
        due.is("D went twice", x.state(3, 0), 2);
        due.live(x, ";;;Ds", 4);
        due.is("D goes past its own", x.state(3, 0), 2);
        due.is("C goes past its own", x.state(2, 0), 0);
    }

    private static void looked(HostageRound x, int child, int land, int name, int went) {
        due.is("behind land of " + child, x.behind(child, 0), land);
        due.is("behind name of " + child, x.behind(child, 1), name);
        due.is("behind went of " + child, x.behind(child, 2), went);
    }

    private static void behind() {
        HostageRound x = Due.write(new HostageRound(), ";;;As;");
        looked(x, 0, 1, 0, 3);
        looked(x, 1, 3, 1, 4);
        Due.write(x, "ABBC");
        looked(x, 0, 1, 1, 0);
        looked(x, 1, 2, 2, 0);
        looked(x, 2, 3, 0, 0);
        Due.write(x, ";Ad;Bm;");
        looked(x, 0, -6, 0, 1);
        looked(x, 1, 0, 1, 2);
        looked(x, 3, 0, 3, 3);
        due.is("nothing is done", x.state(0, 0), 1);
        due.is("the PAD is as it was", x.told(0), 7);
        due.live(x, ";", 1);
        Due.write(x, "");
        looked(x, 0, 2, 0, 0);
        due.is("no CHILD 4", x.behind(4, 9), -1);
        due.is("no CHILD -1", x.behind(-1, 0), -1);
        due.is("what 3", x.behind(0, 3), -2);
        due.is("what -1", x.behind(0, -1), -2);
        Due.write(x, "A");
        due.is("UNKNOWN before NO", x.behind(4, 0), -1);
        due.is("OUTSIDE before NO", x.behind(0, 3), -2);
        due.is("a FAULT", x.behind(0, 0), -5);
        due.is("an ACT that can not be", Due.write(x, "AA").behind(0, 2), -5);
    }

    private static void day() {
        HostageRound x = new HostageRound();
        due.is("day of nothing", x.day(), 0);
        due.is("day of ;.:", Due.write(x, ";.:").day(), 101);
        due.is("day in fact", x.told(3), 0);
        x.season(4);
        due.is("ten days of short seasons", Due.write(x, ":").day(), 10);
        looked(x, 0, 3, 0, 2);
        due.is("the rest of a season", Due.write(x, ":;").day(), 12);
        looked(x, 0, 1, 0, 3);
        due.live(x, ":", 1);
        due.is("two seasons have gone", x.told(4), 2);
        due.is("day from day 10", Due.write(x, ".").day(), 11);
        due.is("a FAULT", Due.write(x, "s").day(), -5);
        due.is("an ACT that can not be", Due.write(x, "AB").day(), -5);
    }
}
