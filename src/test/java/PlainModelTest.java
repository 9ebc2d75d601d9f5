import java.math.BigInteger;
import java.util.ArrayDeque;
import java.util.ArrayList;
import java.util.Arrays;
import java.util.Collections;
import java.util.HashMap;
import java.util.List;
import java.util.Map;
import java.util.Random;

/**
 * All promises at once: long runs of calls, each answered by a plain model too, which
 * goes day by day and tries all there is where the class reckons.
 */
public final class PlainModelTest {
    private static final int RUNS = 400, CALLS = 512, DAYS_AHEAD = 10500;
    private static final int NONE = -6, UNKNOWN = -1, OUTSIDE = -2, STATE = -3, FULL = -4, NO = -5;
    private static final long LOST = -1000000000000000000L;

    private static int wrong = 0;
    private static int asked = 0;

    public static void main(String[] args) {
        for (int run = 0; run < RUNS && wrong < 20; run++) {
            new Run(run).go();
        }
        System.out.println(asked + " answers, " + wrong + " of them not as due");
        if (wrong != 0) {
            System.exit(1);
        }
    }

    /** The lands as they are, gone through day by day. */
    private static final class World {
        int n = 4, length = 90, day, ofSeason, season;
        int[] land = new int[6], name = new int[6], went = new int[6], cold = new int[6];
        boolean[] dead = new boolean[6], stays = new boolean[6], married = new boolean[6], coughs = new boolean[6];
        List<int[]> sights = new ArrayList<>();

        World() {
            for (int k = 0; k < 6; k++) {
                land[k] = (k + 1) % 4;
                name[k] = k;
            }
        }

        World(int lands, int days) {
            this();
            n = lands;
            length = days;
            for (int k = 0; k < 6; k++) {
                land[k] = (k + 1) % n;
            }
        }

        World again() {
            World w = new World();
            w.n = n;
            w.length = length;
            w.day = day;
            w.ofSeason = ofSeason;
            w.season = season;
            w.land = land.clone();
            w.name = name.clone();
            w.went = went.clone();
            w.cold = cold.clone();
            w.dead = dead.clone();
            w.stays = stays.clone();
            w.married = married.clone();
            w.coughs = coughs.clone();
            w.sights = new ArrayList<>(sights);
            return w;
        }

        boolean aDay() {
            day++;
            ofSeason++;
            if (ofSeason < length) {
                return false;
            }
            ofSeason = 0;
            season++;
            for (int k = 0; k < n; k++) {
                if (stays[k]) {
                    stays[k] = false;
                } else if (!married[k] && !dead[k]) {
                    do {
                        land[k] = (land[k] + 1) % n;
                    } while (land[k] == k);
                    went[k]++;
                }
            }
            return true;
        }

        void days(int many) {
            for (int i = 0; i < many; i++) {
                aDay();
            }
        }

        void restOfSeason() {
            while (!aDay()) {
                continue;
            }
        }

        int act(String act) {
            char first = act.charAt(0);
            if (first == '.') {
                aDay();
                return 0;
            }
            if (first == ':') {
                days(10);
                return 0;
            }
            if (first == ';') {
                restOfSeason();
                return 0;
            }
            int k = first - 'A';
            char then = act.charAt(1);
            if (dead[k] || then <= 'F' && dead[then - 'A']) {
                return 1;
            }
            if (then == first) {
                return 2;
            }
            if (then <= 'F') {
                if (ofSeason != 0) {
                    return 3;
                }
                int other = then - 'A';
                int mine = name[k];
                name[k] = name[other];
                name[other] = mine;
                return 0;
            }
            if (then == 'd') {
                dead[k] = true;
                return 0;
            }
            if (stays[k] || married[k]) {
                return 4;
            }
            if (then == 's') {
                stays[k] = true;
            } else {
                married[k] = true;
            }
            return 0;
        }

        int at(int k) {
            return dead[k] ? NONE : land[k];
        }

        int[][] ahead() {
            World w = again();
            int[][] at = new int[DAYS_AHEAD][n];
            for (int d = 0; d < DAYS_AHEAD; d++) {
                for (int k = 0; k < n; k++) {
                    at[d][k] = w.at(k);
                }
                w.aDay();
            }
            return at;
        }

        List<Integer> living() {
            List<Integer> all = new ArrayList<>();
            for (int k = 0; k < n; k++) {
                if (!dead[k]) {
                    all.add(k);
                }
            }
            return all;
        }
    }

    /** The text of YEARS as ACTS, or its FAULT. */
    private static final class Text {
        final List<String> acts = new ArrayList<>();
        int fault = NONE;

        Text(String text, int n) {
            String children = "ABCDEF".substring(0, n);
            int i = 0;
            while (i < text.length() && fault == NONE) {
                if (".:;".indexOf(text.charAt(i)) >= 0) {
                    acts.add(text.substring(i, i + 1));
                    i++;
                } else if (children.indexOf(text.charAt(i)) < 0) {
                    fault = i;
                } else if (i + 1 == text.length()) {
                    fault = i + 1;
                } else if ((children + "sdm").indexOf(text.charAt(i + 1)) < 0) {
                    fault = i + 1;
                } else {
                    acts.add(text.substring(i, i + 2));
                    i += 2;
                }
            }
        }
    }

    /** One run of calls on one object. */
    private static final class Run {
        final int run;
        final Random random;
        final HostageRound x = new HostageRound();
        World w = new World();
        final World[] images = new World[2];
        String pad = "";
        int[][] ahead;
        final List<String> told = new ArrayList<>();

        Run(int run) {
            this.run = run;
            this.random = new Random(run * 7919L + 13);
        }

        void due(String call, long got, long want) {
            asked++;
            told.add(call + " = " + want);
            if (got != want) {
                wrong++;
                System.out.println("run " + run + ": " + call + " answered " + got + ", due is " + want);
                int from = Math.max(0, told.size() - 40);
                System.out.println("  behind " + told.subList(from, told.size() - 1));
            }
        }

        int upTo(int most) {
            return random.nextInt(most + 1);
        }

        /** Within the bounds for the most part, at them often, at times outside. */
        int near(int least, int most) {
            switch (random.nextInt(16)) {
                case 0: return least;
                case 1: return most;
                case 2: return random.nextInt(8) == 0 ? least - 1 : least + upTo(most - least);
                case 3: return random.nextInt(8) == 0 ? most + 1 : least + upTo(most - least);
                case 4: return random.nextInt(40) == 0 ? Integer.MIN_VALUE : least + upTo(most - least);
                case 5: return random.nextInt(40) == 0 ? Integer.MAX_VALUE : least + upTo(most - least);
                default: return least + upTo(most - least);
            }
        }

        int one() {
            return near(0, w.n - 1);
        }

        boolean is(int k) {
            return 0 <= k && k < w.n;
        }

        static boolean in(int v, int least, int most) {
            return least <= v && v <= most;
        }

        void go() {
            begin();
            while (told.size() < CALLS && wrong < 20) {
                switch (random.nextInt(10)) {
                    case 0: case 1: years(); break;
                    case 2: small(); break;
                    case 3: case 4: where(); break;
                    case 5: case 6: wars(); break;
                    case 7: case 8: hats(); break;
                    default: rest(); break;
                }
            }
        }

        void begin() {
            if (random.nextInt(4) != 0) {
                lands(3 + upTo(3));
            }
            if (random.nextInt(3) != 0) {
                int[] lengths = {1, 2, 3, 5, 9, 10, 11, 30, 98, 99};
                season(lengths[upTo(lengths.length - 1)]);
            }
        }

        int[][] at() {
            if (ahead == null) {
                ahead = w.ahead();
            }
            return ahead;
        }

        void lands(int n) {
            int want = in(n, 3, 6) ? w.n : OUTSIDE;
            if (want != OUTSIDE) {
                w = new World(n, w.length);
                ahead = null;
            }
            due("lands(" + n + ")", x.lands(n), want);
        }

        void season(int days) {
            int want = !in(days, 1, 99) ? OUTSIDE : w.ofSeason != 0 ? STATE : w.length;
            if (want > 0) {
                w.length = days;
                ahead = null;
            }
            due("season(" + days + ")", x.season(days), want);
        }

        void small() {
            switch (random.nextInt(9)) {
                case 0:
                    if (random.nextInt(6) == 0) {
                        lands(near(3, 6));
                    }
                    break;
                case 1: season(near(1, 99)); break;
                case 2: case 3: set(); break;
                case 4: state(); break;
                case 5: told(); break;
                case 6: case 7: image(); break;
                default: restore(); break;
            }
        }

        void set() {
            int land = one();
            int which = near(0, 1);
            int v = which == 1 ? near(0, 1) : near(0, 9);
            int want;
            if (!is(land)) {
                want = UNKNOWN;
            } else if (!in(which, 0, 1) || !in(v, 0, which == 0 ? 9 : 1)) {
                want = OUTSIDE;
            } else if (which == 0) {
                want = w.cold[land];
                w.cold[land] = v;
            } else {
                want = w.coughs[land] ? 1 : 0;
                w.coughs[land] = v == 1;
            }
            due("set(" + land + ", " + which + ", " + v + ")", x.set(land, which, v), want);
        }

        void state() {
            for (int k = -1; k <= w.n; k++) {
                int what = near(0, 2);
                int want;
                if (!is(k)) {
                    want = UNKNOWN;
                } else if (!in(what, 0, 2)) {
                    want = OUTSIDE;
                } else {
                    want = what == 0 ? w.at(k) : what == 1 ? w.name[k] : w.stays[k] ? 1 : w.married[k] ? 2 : 0;
                }
                due("state(" + k + ", " + what + ")", x.state(k, what), want);
            }
        }

        void told() {
            int what = near(-1, 27);
            int want = OUTSIDE;
            if (what >= 0 && what <= 6) {
                int bits = 0;
                for (int k : w.living()) {
                    bits |= 1 << k;
                }
                want = new int[] {pad.length(), w.n, w.length, w.day, w.season, bits, w.sights.size()}[what];
            } else if (in(what, 10, 15) && what - 10 < w.n) {
                want = w.cold[what - 10];
            } else if (in(what, 20, 25) && what - 20 < w.n) {
                want = w.coughs[what - 20] ? 1 : 0;
            }
            due("told(" + what + ")", x.told(what), want);
        }

        void image() {
            int n = near(0, 1);
            if (in(n, 0, 1)) {
                images[n] = w.again();
            }
            due("image(" + n + ")", x.image(n), in(n, 0, 1) ? 1 : OUTSIDE);
        }

        void restore() {
            int n = near(0, 1);
            int want = !in(n, 0, 1) ? OUTSIDE : images[n] == null ? STATE : 1;
            if (want == 1) {
                w = images[n].again();
                ahead = null;
            }
            due("restore(" + n + ")", x.restore(n), want);
        }

        void say(int sign) {
            int want = !in(sign, 33, 126) ? OUTSIDE : pad.length() == 60 ? FULL : pad.length() + 1;
            if (want > 0) {
                pad += (char) sign;
            }
            due("say(" + sign + ")", x.say(sign), want);
        }

        String anAct() {
            String k = "" + (char) ('A' + upTo(w.n - 1));
            switch (random.nextInt(12)) {
                case 0: return ".";
                case 1: return ":";
                case 2: case 3: case 4: return ";";
                case 5: return k + "s";
                case 6: return random.nextInt(4) == 0 ? k + "d" : k + "s";
                case 7: return random.nextInt(4) == 0 ? k + "m" : ";";
                case 8: return random.nextInt(25) == 0 ? "" + (char) near(33, 126) : ".";
                default: return k + (char) ('A' + upTo(w.n - (random.nextInt(60) == 0 ? 0 : 1)));
            }
        }

        void years() {
            if (random.nextInt(3) != 0) {
                due("wipe()", x.wipe(), pad.length());
                pad = "";
            }
            int acts = random.nextInt(30) == 0 ? 60 : upTo(5);
            for (int i = 0; i < acts; i++) {
                for (char sign : anAct().toCharArray()) {
                    say(sign);
                }
            }
            if (random.nextInt(20) == 0) {
                say(near(33, 126));
            }
            Text text = new Text(pad, w.n);
            due("fault() of " + pad, x.fault(), text.fault);
            World then = w.again();
            Arrays.fill(then.went, 0);
            int why = 0;
            int could = 0;
            for (int i = 0; i < text.acts.size() && why == 0 && text.fault == NONE; i++) {
                why = then.act(text.acts.get(i));
                could += why == 0 ? 1 : 0;
            }
            boolean no = text.fault != NONE || why != 0;
            int what = near(0, 1);
            int judged = text.fault != NONE ? NO : why == 0 ? NONE : what == 0 ? could : why;
            due("judge(" + what + ")", x.judge(what), in(what, 0, 1) ? judged : OUTSIDE);
            due("day()", x.day(), no ? NO : then.day);
            for (int k = -1; k <= w.n; k++) {
                what = near(0, 2);
                int want = !is(k) ? UNKNOWN : !in(what, 0, 2) ? OUTSIDE : no ? NO
                    : what == 0 ? then.at(k) : what == 1 ? then.name[k] : then.went[k];
                due("behind(" + k + ", " + what + ")", x.behind(k, what), want);
            }
            if (random.nextInt(4) != 0) {
                due("done()", x.done(), no ? NO : text.acts.size());
                if (!no) {
                    w = then;
                    pad = "";
                    ahead = null;
                }
            }
        }

        void where() {
            int k = one();
            int d = random.nextBoolean() ? near(0, 9999) : near(0, 300);
            due("where(" + k + ", " + d + ")", x.where(k, d),
                !is(k) ? UNKNOWN : !in(d, 0, 9999) ? OUTSIDE : at()[d][k]);
            int bits = 0;
            for (int c = 0; c < w.n && in(d, 0, 9999); c++) {
                bits |= at()[d][c] == k ? 1 << c : 0;
            }
            due("who(" + k + ", " + d + ")", x.who(k, d), !is(k) ? UNKNOWN : !in(d, 0, 9999) ? OUTSIDE : bits);
            int other = one();
            boolean known = is(k) && is(other) && k != other;
            int first = NONE;
            int days = 0;
            for (int i = 0; i < 9999 && known; i++) {
                if (at()[i][k] == at()[i][other] && at()[i][k] != NONE) {
                    first = first == NONE ? i : first;
                    days += i < d ? 1 : 0;
                }
            }
            due("meet(" + k + ", " + other + ")", x.meet(k, other), known ? first : UNKNOWN);
            due("together(" + k + ", " + other + ", " + d + ")", x.together(k, other, d),
                !known ? UNKNOWN : !in(d, 0, 9999) ? OUTSIDE : days);
        }

        boolean may(int child, int land, int d, int days) {
            for (int i = d; i < d + days; i++) {
                if (at()[i][child] == land) {
                    return false;
                }
            }
            return true;
        }

        int beginning(int king, int land, int many) {
            int free = 0;
            for (int i = 0; i < 9999 + many; i++) {
                free = at()[i][king] == land ? 0 : free + 1;
                if (free >= many) {
                    return i - many + 1;
                }
            }
            return NONE;
        }

        void wars() {
            int king = one();
            int land = one();
            int d = random.nextBoolean() ? near(0, 9999) : near(0, 500);
            int days = random.nextBoolean() ? near(1, 400) : Math.min(400, w.length * (1 + upTo(5)) + upTo(1));
            boolean known = is(king) && is(land) && king != land;
            due("begin(" + king + ", " + land + ", " + days + ")", x.begin(king, land, days),
                !known ? UNKNOWN : !in(days, 1, 400) ? OUTSIDE : beginning(king, land, days));
            due("longest(" + king + ", " + land + ", " + d + ")", x.longest(king, land, d),
                !known ? UNKNOWN : !in(d, 0, 9999) ? OUTSIDE : mostDays(king, land, d));
            int want = !is(land) ? UNKNOWN : !in(d, 0, 9999) || !in(days, 1, 400) ? OUTSIDE : 0;
            int struck = want;
            int fooled = want;
            for (int k = 0; k < w.n && want == 0; k++) {
                int bearer = 0;
                while (w.name[bearer] != k) {
                    bearer++;
                }
                if (k != land && may(k, land, d, days)) {
                    struck |= 1 << k;
                } else if (k != land && may(bearer, land, d, days)) {
                    fooled |= 1 << k;
                }
            }
            due("struck(" + land + ", " + d + ", " + days + ")", x.struck(land, d, days), struck);
            due("fooled(" + land + ", " + d + ", " + days + ")", x.fooled(land, d, days), fooled);
            sure(days);
            letters();
            furs();
        }

        int mostDays(int king, int land, int d) {
            int days = 0;
            int[][] seen = at();
            World far = null;
            for (int i = d; days < 9999; i++) {
                int where;
                if (i < DAYS_AHEAD) {
                    where = seen[i][king];
                } else {
                    if (far == null) {
                        far = w.again();
                        far.days(DAYS_AHEAD);
                    }
                    where = far.at(king);
                    far.aDay();
                }
                if (where == land) {
                    return days;
                }
                days++;
            }
            return days;
        }

        void sure(int days) {
            int sure = 0;
            for (int l = 0; l < w.n && in(days, 1, 400); l++) {
                boolean struck = false;
                for (int k = 0; k < w.n; k++) {
                    struck |= k != l && beginning(k, l, days) != NONE;
                }
                sure |= struck ? 0 : 1 << l;
            }
            due("sure(" + days + ")", x.sure(days), in(days, 1, 400) ? sure : OUTSIDE);
        }

        void letters() {
            int from = one();
            int to = one();
            int days = 0;
            if (is(from) && is(to)) {
                World then = w.again();
                for (int l = from; l != to; days++) {
                    if (then.aDay()) {
                        l = (l + w.n - 1) % w.n;
                    }
                }
            }
            due("letter(" + from + ", " + to + ")", x.letter(from, to), is(from) && is(to) ? days : UNKNOWN);
            int want = is(from) ? NONE : UNKNOWN;
            if (is(from) && !w.dead[from]) {
                World then = w.again();
                int l = from;
                for (int d = 1; d <= 9999 && want == NONE; d++) {
                    if (then.aDay()) {
                        l = (l + w.n - 1) % w.n;
                    }
                    want = then.land[from] == l ? d : NONE;
                }
            }
            due("copy(" + from + ")", x.copy(from), want);
        }

        void furs() {
            int m = near(1, 24);
            int what = near(0, 1);
            int most = -1;
            int first = 0;
            World then = w.again();
            for (int s = 0; s < m && in(m, 1, 24); s++) {
                int wanted = 0;
                for (int k : then.living()) {
                    wanted += then.cold[then.land[k]];
                }
                if (wanted > most) {
                    most = wanted;
                    first = s;
                }
                then.restOfSeason();
            }
            due("furs(" + m + ", " + what + ")", x.furs(m, what),
                !in(m, 1, 24) || !in(what, 0, 1) ? OUTSIDE : what == 0 ? most : first);
        }

        /** All dealings, each as the bearer's NAME by CHILDREN, 6 for the dead, that fit the SIGHTS. */
        List<int[]> rows() {
            List<int[]> rows = new ArrayList<>();
            List<Integer> free = new ArrayList<>();
            for (int k : w.living()) {
                free.add(w.name[k]);
            }
            Collections.sort(free);
            deal(0, new int[w.n], free, rows);
            return rows;
        }

        void deal(int k, int[] row, List<Integer> free, List<int[]> rows) {
            if (k == w.n) {
                if (fits(row)) {
                    rows.add(row.clone());
                }
                return;
            }
            if (w.dead[k]) {
                row[k] = 6;
                deal(k + 1, row, free, rows);
                return;
            }
            for (int i = 0; i < free.size(); i++) {
                int name = free.remove(i);
                row[k] = name;
                deal(k + 1, row, free, rows);
                free.add(i, name);
            }
        }

        boolean fits(int[] row) {
            for (int[] sight : w.sights) {
                boolean so = false;
                for (int k = 0; k < w.n; k++) {
                    so |= row[k] == sight[0] && w.coughs[k] == (sight[1] == 1);
                }
                if (!so) {
                    return false;
                }
            }
            return true;
        }

        int digits(int[] row) {
            int digits = 0;
            for (int digit : row) {
                digits = digits * 10 + digit;
            }
            return digits;
        }

        void hats() {
            if (random.nextInt(3) == 0) {
                for (int k = 0; k < w.n; k++) {
                    int v = upTo(1);
                    due("set(" + k + ", 1, " + v + ")", x.set(k, 1, v), w.coughs[k] ? 1 : 0);
                    w.coughs[k] = v == 1;
                }
            }
            if (random.nextInt(3) == 0) {
                due("forget()", x.forget(), w.sights.size());
                w.sights.clear();
            }
            int more = upTo(random.nextInt(6) == 0 ? 9 : 1);
            for (int i = 0; i < more; i++) {
                int name = one();
                boolean coughed = random.nextBoolean();
                int want = !is(name) ? UNKNOWN : w.sights.size() == 8 ? FULL : w.sights.size() + 1;
                if (want > 0) {
                    w.sights.add(new int[] {name, coughed ? 1 : 0});
                }
                due("seen(" + name + ", " + coughed + ")", x.seen(name, coughed), want);
            }
            List<int[]> rows = rows();
            due("changed(-1)", x.changed(-1), rows.size());
            for (int i = 0; i < 4; i++) {
                int r = near(-1, rows.size());
                int want = r == -1 ? rows.size() : in(r, 0, rows.size() - 1) ? digits(rows.get(r)) : NONE;
                due("changed(" + r + ")", x.changed(r), want);
            }
            for (int k = -1; k <= w.n; k++) {
                int bits = 0;
                for (int i = 0; i < rows.size() && is(k); i++) {
                    bits |= 1 << rows.get(i)[k];
                }
                due("names(" + k + ")", x.names(k), !is(k) || w.dead[k] ? UNKNOWN : bits);
            }
            hear(rows);
            undo();
            marriages();
        }

        void hear(List<int[]> rows) {
            int what = near(0, 1);
            int best = NONE;
            int least = NONE;
            for (int name = 0; name < w.n && !rows.isEmpty(); name++) {
                int borne = 0;
                int coughed = 0;
                for (int[] row : rows) {
                    for (int k = 0; k < w.n; k++) {
                        borne += row[k] == name ? 1 : 0;
                        coughed += row[k] == name && w.coughs[k] ? 1 : 0;
                    }
                }
                int most = Math.max(coughed, rows.size() - coughed);
                if (borne > 0 && (best == NONE || most < least)) {
                    best = name;
                    least = most;
                }
            }
            due("hear(" + what + ")", x.hear(what), !in(what, 0, 1) ? OUTSIDE : what == 0 ? best : least);
        }

        void undo() {
            List<Integer> living = w.living();
            int[] start = Arrays.copyOf(w.name, w.n);
            Map<String, Integer> changes = new HashMap<>();
            ArrayDeque<int[]> open = new ArrayDeque<>();
            open.add(start);
            changes.put(Arrays.toString(start), 0);
            int want = NONE;
            while (!open.isEmpty() && want == NONE) {
                int[] names = open.poll();
                int sofar = changes.get(Arrays.toString(names));
                boolean all = true;
                for (int k : living) {
                    all &= names[k] == k;
                }
                if (all) {
                    want = sofar;
                }
                for (int one : living) {
                    for (int other : living) {
                        int[] next = names.clone();
                        next[one] = names[other];
                        next[other] = names[one];
                        if (changes.putIfAbsent(Arrays.toString(next), sofar + 1) == null) {
                            open.add(next);
                        }
                    }
                }
            }
            due("undo()", x.undo(), want);
        }

        void marriages() {
            int m = near(1, 24);
            if (!in(m, 1, 24)) {
                due("marriages(" + m + ")", x.marriages(m), OUTSIDE);
                return;
            }
            boolean[][] may = new boolean[6][6];
            for (boolean[] row : may) {
                Arrays.fill(row, true);
            }
            World then = w.again();
            for (int s = 0; s < m; s++) {
                for (int a = 0; a < w.n; a++) {
                    for (int b = 0; b < w.n; b++) {
                        may[a][b] &= then.at(a) != then.at(b);
                    }
                }
                then.restOfSeason();
            }
            List<Integer> free = new ArrayList<>();
            for (int k : w.living()) {
                if (!w.married[k]) {
                    free.add(k);
                }
            }
            due("marriages(" + m + ")", x.marriages(m), twos(free, may));
        }

        int twos(List<Integer> free, boolean[][] may) {
            int best = 0;
            for (int a = 0; a < free.size(); a++) {
                for (int b = a + 1; b < free.size(); b++) {
                    if (may[free.get(a)][free.get(b)]) {
                        List<Integer> rest = new ArrayList<>(free);
                        rest.remove(b);
                        rest.remove(a);
                        best = Math.max(best, 1 + twos(rest, may));
                    }
                }
            }
            return best;
        }

        void rest() {
            int m = near(0, 3);
            int t = near(0, 10);
            int what = near(0, 1);
            int part = near(0, 1);
            boolean outside = !in(m, 0, 3) || !in(t, 0, 10) || !in(what, 0, 1) || !in(part, 0, 1);
            due("deaths(" + m + ", " + t + ", " + what + ", " + part + ")", x.deaths(m, t, what, part),
                outside ? LOST + OUTSIDE : deaths(m, t, what, part));
            int seed = near(0, 9999);
            int draws = random.nextBoolean() ? near(1, 99) : near(1, 8);
            what = near(0, 2);
            outside = !in(seed, 0, 9999) || !in(draws, 1, 99) || !in(what, 0, 2);
            due("year(" + seed + ", " + draws + ", " + what + ")", x.year(seed, draws, what),
                outside ? OUTSIDE : year(seed, draws, what));
        }

        /** Of how many live the weights, by all that can happen to who lived a season ahead. */
        long deaths(int m, int t, int what, int part) {
            int living = w.living().size();
            BigInteger[] weight = new BigInteger[living + 1];
            Arrays.fill(weight, BigInteger.ZERO);
            weight[living] = BigInteger.ONE;
            for (int season = 0; season < m; season++) {
                BigInteger[] next = new BigInteger[living + 1];
                Arrays.fill(next, BigInteger.ZERO);
                for (int lived = 0; lived <= living; lived++) {
                    for (int who = 0; who < 1 << lived; who++) {
                        int left = Integer.bitCount(who);
                        BigInteger chance = BigInteger.valueOf(10 - t).pow(left)
                            .multiply(BigInteger.valueOf(t).pow(lived - left))
                            .multiply(BigInteger.TEN.pow(living - lived));
                        next[left] = next[left].add(weight[lived].multiply(chance));
                    }
                }
                weight = next;
            }
            BigInteger all = BigInteger.ZERO;
            BigInteger sum = BigInteger.ZERO;
            for (int k = 0; k <= living; k++) {
                all = all.add(weight[k]);
                sum = sum.add(weight[k].multiply(BigInteger.valueOf(k)));
            }
            BigInteger upper = what == 0 ? weight[living] : sum;
            return (part == 0 ? upper : all).divide(upper.gcd(all)).longValueExact();
        }

        int year(int seed, int m, int what) {
            World then = w.again();
            long s = seed;
            for (int i = 0; i < m; i++) {
                s = (75 * s + 74) % 65537;
                char k = (char) ('A' + s / 8 % w.n);
                char other = (char) ('A' + s / 64 % w.n);
                String[] acts = {k + "s", "" + k + other, ":", ":", ";", ";", ";", ";"};
                then.act(acts[(int) (s % 8)]);
            }
            int own = 0;
            int empty = (1 << w.n) - 1;
            for (int k : then.living()) {
                own += then.name[k] == k ? 1 : 0;
                empty &= ~(1 << then.land[k]);
            }
            return what == 0 ? then.day - w.day : what == 1 ? own : empty;
        }
    }
}
