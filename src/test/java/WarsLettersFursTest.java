/** Promises 17 to 24: wars, who is fooled, letters and furs. */
public final class WarsLettersFursTest {
    private static final Due due = new Due();

    public static void main(String[] args) {
        begin();
        longest();
        struck();
        sure();
        fooled();
        letter();
        copy();
        furs();
        due.end();
    }

    // A 1 1 2 3 1 2 3, B 2 3 0 2 3 0 2, C 3 0 1 3 0 1 3, D 0 1 2 0 1 2 0
    private static HostageRound whereAStays() {
        return due.live(new HostageRound(), "As", 1);
    }

    private static void begin() {
        HostageRound x = whereAStays();
        due.is("on 1", x.begin(0, 1, 1), 180);
        due.is("on 1, two seasons", x.begin(0, 1, 180), 180);
        due.is("on 1, longer", x.begin(0, 1, 181), -6);
        due.is("on 2, two seasons", x.begin(0, 2, 180), 0);
        due.is("on 2, longer", x.begin(0, 2, 181), -6);
        due.is("on 3, three seasons once", x.begin(0, 3, 270), 0);
        due.is("on 3, longer", x.begin(0, 3, 271), -6);
        due.live(x, ".", 1);
        due.is("on 3, a day too late", x.begin(0, 3, 270), -6);
        due.is("on 1, a day later", x.begin(0, 1, 1), 179);
        due.live(x, "BmCd", 2);
        due.is("married there", x.begin(1, 2, 1), -6);
        due.is("married elsewhere", x.begin(1, 3, 400), 0);
        due.is("dead", x.begin(2, 3, 400), 0);
        due.is("one's own LAND", x.begin(0, 0, 0), -1);
        due.is("no king 4", x.begin(4, 0, 0), -1);
        due.is("no LAND -1", x.begin(0, -1, 1), -1);
        due.is("w 0", x.begin(0, 1, 0), -2);
        due.is("w 401", x.begin(0, 1, 401), -2);
    }

    private static void longest() {
        HostageRound x = whereAStays();
        due.is("on 3", x.longest(0, 3, 0), 270);
        due.is("on 3, later", x.longest(0, 3, 100), 170);
        due.is("on 3, not", x.longest(0, 3, 270), 0);
        due.is("on 3, the last day", x.longest(0, 3, 359), 0);
        due.is("on 3, again", x.longest(0, 3, 360), 180);
        due.is("on 1, the last day", x.longest(0, 1, 179), 0);
        // day 9999 is in season 111, its tenth day; A has gone 110 times: it is in 3
        due.is("on 3, on day 9999", x.longest(0, 3, 9999), 0);
        due.is("on 1, on day 9999", x.longest(0, 1, 9999), 81);
        due.is("on 2, on day 9999", x.longest(0, 2, 9999), 171);
        due.live(x, "AdBm", 2);
        due.is("dead", x.longest(0, 1, 9999), 9999);
        due.is("married elsewhere", x.longest(1, 0, 0), 9999);
        due.is("married there", x.longest(1, 2, 0), 0);
        due.is("one's own LAND", x.longest(2, 2, -1), -1);
        due.is("no king -1", x.longest(-1, 2, 0), -1);
        due.is("no LAND 4", x.longest(0, 4, 0), -1);
        due.is("d -1", x.longest(0, 1, -1), -2);
        due.is("d 10000", x.longest(0, 1, 10000), -2);
    }

    private static void struck() {
        HostageRound x = whereAStays();
        due.is("3 for three seasons", x.struck(3, 0, 270), 1);
        due.is("3 for a season", x.struck(3, 0, 90), 3);
        due.is("3 for more", x.struck(3, 0, 91), 1);
        due.is("1 from the next one on", x.struck(1, 90, 90), 4);
        due.is("1 on the last days", x.struck(1, 179, 1), 4);
        due.is("1 later", x.struck(1, 180, 1), 1 + 8);
        due.live(x, "BdCm", 2);
        due.is("3: dead, married there", x.struck(3, 0, 400), 2);
        due.is("0: dead, married elsewhere", x.struck(0, 9999, 400), 2 + 4);
        due.is("1: not by its own king", x.struck(1, 0, 1), 4 + 8);
        due.is("no LAND 4", x.struck(4, -1, 0), -1);
        due.is("no LAND -1", x.struck(-1, 0, 1), -1);
        due.is("d -1", x.struck(0, -1, 1), -2);
        due.is("d 10000", x.struck(0, 10000, 1), -2);
        due.is("w 0", x.struck(0, 0, 0), -2);
        due.is("w 401", x.struck(0, 0, 401), -2);
    }

    private static void sure() {
        HostageRound x = whereAStays();
        due.is("a day", x.sure(1), 0);
        due.is("two seasons", x.sure(180), 0);
        due.is("more", x.sure(181), 7);
        due.is("three seasons", x.sure(270), 7);
        due.is("more yet", x.sure(271), 15);
        due.live(x, "Dd", 1);
        due.is("D is dead: his own LAND alone", x.sure(400), 8);
        due.live(x, "Cm", 1);
        due.is("C is married in 3", x.sure(400), 8);
        due.live(x, "Bd", 1);
        due.is("two are dead", x.sure(400), 0);
        due.is("w 0", x.sure(0), -2);
        due.is("w 401", x.sure(401), -2);
    }

    private static void fooled() {
        HostageRound x = new HostageRound();
        due.is("nobody", x.fooled(1, 0, 1), 0);
        // king 0 takes C (3 0 1) for A (1 2 3), king 2 A for C
        due.live(x, "AC", 1);
        due.is("on 1", x.fooled(1, 0, 1), 1);
        due.is("on 1, till C is there", x.fooled(1, 0, 180), 1);
        due.is("on 1, it is there", x.fooled(1, 0, 181), 0);
        due.is("on 1, when A is not", x.fooled(1, 90, 90), 0);
        due.is("on 3", x.fooled(3, 0, 180), 4);
        due.is("on 3, A would be there", x.fooled(3, 0, 181), 0);
        due.is("on 2", x.fooled(2, 90, 1), 1);
        due.is("on 0", x.fooled(0, 90, 1), 4);
        due.live(x, "Cd", 1);
        due.is("it for dead", x.fooled(1, 0, 400), 1);
        due.is("its own is dead: it may", x.fooled(3, 0, 1), 0);
        x = whereAStays();
        // behind the equinox A and D are in 1, B in 3, C in 0
        due.live(x, ";ABDC", 3);
        due.is("two kings", x.fooled(1, 0, 1), 1 + 8);
        due.is("no LAND 4", x.fooled(4, -1, 0), -1);
        due.is("no LAND -1", x.fooled(-1, 0, 1), -1);
        due.is("d -1", x.fooled(0, -1, 1), -2);
        due.is("d 10000", x.fooled(0, 10000, 1), -2);
        due.is("w 0", x.fooled(0, 0, 0), -2);
        due.is("w 401", x.fooled(0, 0, 401), -2);
    }

    private static void letter() {
        HostageRound x = new HostageRound();
        for (int from = 0; from < 4; from++) {
            for (int to = 0; to < 4; to++) {
                due.is("letter " + from + to, x.letter(from, to), 90 * ((from - to + 4) % 4));
            }
        }
        due.live(x, "...", 3);
        due.is("the next equinox", x.letter(0, 3), 87);
        due.is("three of them", x.letter(3, 0), 87 + 180);
        due.is("there at once", x.letter(1, 1), 0);
        due.is("no LAND 4", x.letter(4, 0), -1);
        due.is("no LAND -1", x.letter(0, -1), -1);
    }

    private static void copy() {
        HostageRound x = new HostageRound();
        due.is("B 3 0 2, it 0 3 2", x.copy(1), 270);
        due.is("of three", Due.fresh(3, 90).copy(0), 90);
        due.is("of six: A 2 3 4 5 1, it 5 4 3 2 1", Due.fresh(6, 99).copy(0), 495);
        due.is("of five: A 2 3, it 4 3", Due.fresh(5, 2).copy(0), 4);
        due.live(x, ".Am", 2);
        due.is("married in 1", x.copy(0), 89 + 180);
        due.live(x, "AdDm", 2);
        due.is("dead", x.copy(0), -6);
        due.is("D married in 0: it is there last", x.copy(3), 89 + 180);
        due.is("no king 4", x.copy(4), -1);
        due.is("no king -1", x.copy(-1), -1);
    }

    private static void furs() {
        HostageRound x = whereAStays();
        due.is("none", x.furs(24, 0), 0);
        due.is("none, first", x.furs(24, 1), 0);
        x.set(1, 0, 5);
        due.is("this one", x.furs(1, 0), 5);
        due.is("A and D", x.furs(2, 0), 10);
        due.is("in the next", x.furs(2, 1), 1);
        x.set(2, 0, 7);
        // season 2: A and D in 2, C in 1: 7 + 7 + 5
        due.is("three furs", x.furs(24, 0), 19);
        due.is("three furs, first", x.furs(24, 1), 2);
        due.live(x, ";.", 2);
        due.is("from this one on", x.furs(24, 1), 1);
        due.live(x, "Dd", 1);
        due.is("the dead want none", x.furs(2, 0), 12);
        due.live(x, "AmBm", 2);
        due.is("the married do: A in 1 and B in 3, C in 0 1 3", x.furs(24, 0), 10);
        due.is("m 0", x.furs(0, 0), -2);
        due.is("m 25", x.furs(25, 0), -2);
        due.is("what 2", x.furs(1, 2), -2);
        due.is("what -1", x.furs(1, -1), -2);
    }
}
