/** Lands that keep peace by hostages who go round with the seasons. */
public final class HostageRound {
    public static final int NONE = -6, UNKNOWN = -1, OUTSIDE = -2, STATE = -3, FULL = -4, NO = -5;
    public static final long LOST = -1000000000000000000L;

    private static final int FEWEST_LANDS = 3, MOST_LANDS = 6;
    private static final int LONGEST_SEASON = 99;
    private static final int COLDEST = 9;
    private static final int LAST_DAY = 9999;
    private static final int LONGEST_WAR = 400;
    private static final int MOST_SEASONS = 24;
    private static final int MOST_SIGNS = 60, FIRST_SIGN = 33, LAST_SIGN = 126;
    private static final int MOST_SIGHTS = 8;
    private static final int LAST_SEED = 9999, MOST_DRAWS = 99;
    private static final int IMAGES = 2;
    private static final int GOES = 0, STAYS = 1, MARRIED = 2;
    private static final int CAN_BE = 0, ONE_IS_DEAD = 1, BOTH_ARE_ONE = 2, NO_FIRST_DAY = 3, IS_BOUND = 4;
    private static final int DEAD_DIGIT = 6;

    private final Round now = new Round();
    private final Round tried = new Round();
    private final Round firstImage = new Round();
    private final Round secondImage = new Round();
    private final Row kept = new Row(IMAGES);
    private final Pad pad = new Pad();
    private final Years years = new Years();
    private final Deal deal = new Deal();
    private final Weddings weddings = new Weddings();

    public HostageRound() {
        now.longDays = 90;
        now.startAnew(4);
    }

    // ---- 1 lands, years

    public int lands(int n) {
        if (!within(n, FEWEST_LANDS, MOST_LANDS)) {
            return OUTSIDE;
        }
        int before = now.lands;
        now.startAnew(n);
        return before;
    }

    public int season(int days) {
        if (!within(days, 1, LONGEST_SEASON)) {
            return OUTSIDE;
        }
        if (now.dayOfSeason != 0) {
            return STATE;
        }
        int before = now.longDays;
        now.longDays = days;
        return before;
    }

    public int set(int land, int which, int v) {
        if (!now.has(land)) {
            return UNKNOWN;
        }
        if (!within(which, 0, 1) || !within(v, 0, which == 0 ? COLDEST : 1)) {
            return OUTSIDE;
        }
        Row row = which == 0 ? now.cold : now.coughs;
        int before = row.get(land);
        row.put(land, v);
        return before;
    }

    public int say(int sign) {
        if (!within(sign, FIRST_SIGN, LAST_SIGN)) {
            return OUTSIDE;
        }
        if (pad.signs >= MOST_SIGNS) {
            return FULL;
        }
        return pad.add(sign);
    }

    public int wipe() {
        return pad.clear();
    }

    public int fault() {
        return pad.firstFault(now.lands);
    }

    // ---- 2 years

    public int judge(int what) {
        if (!within(what, 0, 1)) {
            return OUTSIDE;
        }
        if (pad.firstFault(now.lands) != NONE) {
            return NO;
        }
        if (years.canBe(now, tried, pad)) {
            return NONE;
        }
        return what == 0 ? years.acts : years.why;
    }

    public int done() {
        if (!yearsCanBe()) {
            return NO;
        }
        now.takeOver(tried);
        pad.clear();
        return years.acts;
    }

    public int state(int child, int what) {
        if (!now.has(child)) {
            return UNKNOWN;
        }
        if (!within(what, 0, 2)) {
            return OUTSIDE;
        }
        if (what == 0) {
            return now.landAfter(child, 0);
        }
        return what == 1 ? now.name.get(child) : now.bond.get(child);
    }

    public int behind(int child, int what) {
        if (!now.has(child)) {
            return UNKNOWN;
        }
        if (!within(what, 0, 2)) {
            return OUTSIDE;
        }
        if (!yearsCanBe()) {
            return NO;
        }
        if (what == 0) {
            return tried.landAfter(child, 0);
        }
        return what == 1 ? tried.name.get(child) : tried.went.get(child);
    }

    public int day() {
        return yearsCanBe() ? tried.day : NO;
    }

    public int where(int child, int d) {
        if (!now.has(child)) {
            return UNKNOWN;
        }
        if (!within(d, 0, LAST_DAY)) {
            return OUTSIDE;
        }
        return now.landAfter(child, now.equinoxesTill(d));
    }

    public int who(int land, int d) {
        if (!now.has(land)) {
            return UNKNOWN;
        }
        if (!within(d, 0, LAST_DAY)) {
            return OUTSIDE;
        }
        return now.guestsAfter(land, now.equinoxesTill(d));
    }

    public int meet(int child, int other) {
        if (!now.hasBoth(child, other)) {
            return UNKNOWN;
        }
        for (int e = 0; e <= now.lands; e++) {
            if (now.shareALand(child, other, e)) {
                return now.firstDayAfter(e);
            }
        }
        return NONE;
    }

    public int together(int child, int other, int d) {
        if (!now.hasBoth(child, other)) {
            return UNKNOWN;
        }
        if (!within(d, 0, LAST_DAY)) {
            return OUTSIDE;
        }
        int days = 0;
        if (now.shareALand(child, other, 0)) {
            days = Math.min(d, now.firstDayAfter(1));
        }
        for (int e = 1; e < now.lands; e++) {
            if (now.shareALand(child, other, e)) {
                days += now.daysLikeSeason(e, d);
            }
        }
        return days;
    }

    // ---- 3 wars, letters, furs

    public int begin(int king, int land, int w) {
        if (!now.hasBoth(king, land)) {
            return UNKNOWN;
        }
        if (!within(w, 1, LONGEST_WAR)) {
            return OUTSIDE;
        }
        return now.firstWar(king, land, w);
    }

    public int longest(int king, int land, int d) {
        if (!now.hasBoth(king, land)) {
            return UNKNOWN;
        }
        if (!within(d, 0, LAST_DAY)) {
            return OUTSIDE;
        }
        return now.daysAway(king, land, d);
    }

    public int struck(int land, int d, int w) {
        if (!now.has(land)) {
            return UNKNOWN;
        }
        if (!within(d, 0, LAST_DAY) || !within(w, 1, LONGEST_WAR)) {
            return OUTSIDE;
        }
        int kings = 0;
        for (int king = 0; king < now.lands; king++) {
            if (king != land && now.daysAway(king, land, d) >= w) {
                kings |= 1 << king;
            }
        }
        return kings;
    }

    public int sure(int w) {
        if (!within(w, 1, LONGEST_WAR)) {
            return OUTSIDE;
        }
        int safe = 0;
        for (int land = 0; land < now.lands; land++) {
            boolean struck = false;
            for (int king = 0; king < now.lands; king++) {
                struck |= king != land && now.firstWar(king, land, w) != NONE;
            }
            if (!struck) {
                safe |= 1 << land;
            }
        }
        return safe;
    }

    public int fooled(int land, int d, int w) {
        if (!now.has(land)) {
            return UNKNOWN;
        }
        if (!within(d, 0, LAST_DAY) || !within(w, 1, LONGEST_WAR)) {
            return OUTSIDE;
        }
        int kings = 0;
        for (int king = 0; king < now.lands; king++) {
            boolean may = now.daysAway(king, land, d) >= w;
            boolean seemsSo = now.daysAway(now.bearerOf(king), land, d) >= w;
            if (king != land && seemsSo && !may) {
                kings |= 1 << king;
            }
        }
        return kings;
    }

    public int letter(int from, int to) {
        if (!now.has(from) || !now.has(to)) {
            return UNKNOWN;
        }
        return now.firstDayAfter(leftOver(from - to, now.lands));
    }

    public int copy(int king) {
        if (!now.has(king)) {
            return UNKNOWN;
        }
        // A letter is where it was behind n seasons, a CHILD behind n - 1.
        int seasons = now.lands * (now.lands - 1);
        for (int e = 1; e <= seasons; e++) {
            int days = now.firstDayAfter(e);
            if (days <= LAST_DAY && now.landAfter(king, e) == leftOver(king - e, now.lands)) {
                return days;
            }
        }
        return NONE;
    }

    public int furs(int m, int what) {
        if (!within(m, 1, MOST_SEASONS) || !within(what, 0, 1)) {
            return OUTSIDE;
        }
        int most = 0;
        int first = 0;
        for (int e = 0; e < m; e++) {
            int wanted = now.fursAfter(e);
            if (wanted > most) {
                most = wanted;
                first = e;
            }
        }
        return what == 0 ? most : first;
    }

    // ---- 4 hats, marriages, deaths

    public int seen(int name, boolean coughed) {
        if (!now.has(name)) {
            return UNKNOWN;
        }
        if (now.sights >= MOST_SIGHTS) {
            return FULL;
        }
        now.sightName.put(now.sights, name);
        now.sightCoughed.put(now.sights, coughed ? 1 : 0);
        now.sights++;
        return now.sights;
    }

    public int forget() {
        int before = now.sights;
        now.sights = 0;
        return before;
    }

    public int changed(int i) {
        deal.prepare(now);
        if (i == -1) {
            return deal.ways();
        }
        if (i < 0 || i >= deal.ways()) {
            return NONE;
        }
        return deal.rowAt(now, i);
    }

    public int names(int child) {
        if (!now.has(child) || !now.lives(child)) {
            return UNKNOWN;
        }
        deal.prepare(now);
        return deal.namesFor(now, child);
    }

    public int hear(int what) {
        if (!within(what, 0, 1)) {
            return OUTSIDE;
        }
        deal.prepare(now);
        int best = deal.nameToHear(now.lands);
        if (best == NONE) {
            return NONE;
        }
        return what == 0 ? best : deal.mostLeftBy(best);
    }

    public int undo() {
        for (int child = 0; child < now.lands; child++) {
            if (now.lives(child) && !now.lives(now.bearerOf(child))) {
                return NONE;
            }
        }
        tried.takeOver(now);
        int changes = 0;
        for (int child = 0; child < tried.lands; child++) {
            if (tried.lives(child) && tried.name.get(child) != child) {
                tried.swapNames(child, tried.bearerOf(child));
                changes++;
            }
        }
        return changes;
    }

    public int marriages(int m) {
        if (!within(m, 1, MOST_SEASONS)) {
            return OUTSIDE;
        }
        return weddings.mostTwos(now, m);
    }

    public long deaths(int m, int t, int what, int part) {
        if (!within(m, 0, 3) || !within(t, 0, 10) || !within(what, 0, 1) || !within(part, 0, 1)) {
            return LOST + OUTSIDE;
        }
        int living = Integer.bitCount(now.living);
        long common = commonDivisor(10 - t, 10);
        int times = what == 0 ? m * living : m;
        long upper = power(cut(10 - t, common), times) * (what == 0 ? 1 : living);
        long lower = power(cut(10, common), times);
        return cut(part == 0 ? upper : lower, commonDivisor(upper, lower));
    }

    public int year(int seed, int m, int what) {
        if (!within(seed, 0, LAST_SEED) || !within(m, 1, MOST_DRAWS) || !within(what, 0, 2)) {
            return OUTSIDE;
        }
        drawYear(seed, m);
        if (what == 0) {
            return tried.day - now.day;
        }
        return what == 1 ? tried.ownNames() : tried.emptyLands();
    }

    public int image(int n) {
        if (!within(n, 0, IMAGES - 1)) {
            return OUTSIDE;
        }
        imageAt(n).takeOver(now);
        kept.put(n, 1);
        return 1;
    }

    public int restore(int n) {
        if (!within(n, 0, IMAGES - 1)) {
            return OUTSIDE;
        }
        if (kept.get(n) == 0) {
            return STATE;
        }
        now.takeOver(imageAt(n));
        return 1;
    }

    public int told(int what) {
        switch (what) {
            case 0: return pad.signs;
            case 1: return now.lands;
            case 2: return now.longDays;
            case 3: return now.day;
            case 4: return now.season;
            case 5: return now.living;
            case 6: return now.sights;
            default: return toldOfOne(what);
        }
    }

    private int toldOfOne(int what) {
        if (within(what, 10, 9 + now.lands)) {
            return now.cold.get(what - 10);
        }
        if (within(what, 20, 19 + now.lands)) {
            return now.coughs.get(what - 20);
        }
        return OUTSIDE;
    }

    private Round imageAt(int n) {
        return n == 0 ? firstImage : secondImage;
    }

    private boolean yearsCanBe() {
        return pad.firstFault(now.lands) == NONE && years.canBe(now, tried, pad);
    }

    private void drawYear(int seed, int m) {
        tried.takeOver(now);
        int x = seed;
        for (int act = 0; act < m; act++) {
            x = (75 * x + 74) % 65537;
            drawAct(x);
        }
    }

    private void drawAct(int x) {
        int child = leftOver(x / 8, tried.lands);
        int other = leftOver(x / 64, tried.lands);
        switch (x % 8) {
            case 0:
                tried.bind(child, STAYS);
                break;
            case 1:
                tried.changeHats(child, other);
                break;
            case 2:
            case 3:
                tried.passDays(10);
                break;
            default:
                tried.passSeason();
                break;
        }
    }

    private static boolean within(int v, int least, int most) {
        return v >= least && v <= most;
    }

    private static int leftOver(int v, int by) {
        if (by <= 0) {
            return 0;
        }
        int rest = v % by;
        return rest < 0 ? rest + by : rest;
    }

    private static int cut(int v, int by) {
        return by > 0 ? v / by : 0;
    }

    private static long cut(long v, long by) {
        return by > 0 ? v / by : 0;
    }

    private static long commonDivisor(long one, long other) {
        long a = one;
        long b = other;
        // Euclid's steps on two longs are fewer than a hundred.
        for (int step = 0; step < 100 && b != 0; step++) {
            long rest = a % b;
            a = b;
            b = rest;
        }
        return a;
    }

    private static long power(long base, int times) {
        long product = 1;
        for (int i = 0; i < times; i++) {
            product *= base;
        }
        return product;
    }

    /** Numbers whose places are looked at before they are used. */
    private static final class Row {
        private final int[] cells;

        Row(int length) {
            cells = new int[length < 0 ? 0 : length];
        }

        int get(int i) {
            return i >= 0 && i < cells.length ? cells[i] : 0;
        }

        void put(int i, int v) {
            if (i >= 0 && i < cells.length) {
                cells[i] = v;
            }
        }

        void fill(int v) {
            for (int i = 0; i < cells.length; i++) {
                cells[i] = v;
            }
        }

        void takeOver(Row other) {
            for (int i = 0; i < cells.length; i++) {
                cells[i] = other.get(i);
            }
        }
    }

    /** All but the PAD and the IMAGES. */
    private static final class Round {
        int lands;
        int longDays;
        int day;
        int dayOfSeason;
        int season;
        int living;
        int sights;
        // How many LANDS behind the first one that a CHILD goes to, its own left out.
        final Row place = new Row(MOST_LANDS);
        final Row name = new Row(MOST_LANDS);
        final Row bond = new Row(MOST_LANDS);
        // Counted for the YEARS that are tried alone, so it is not taken over.
        final Row went = new Row(MOST_LANDS);
        final Row coughs = new Row(MOST_LANDS);
        final Row cold = new Row(MOST_LANDS);
        final Row sightName = new Row(MOST_SIGHTS);
        final Row sightCoughed = new Row(MOST_SIGHTS);

        void startAnew(int n) {
            lands = n;
            day = 0;
            dayOfSeason = 0;
            season = 0;
            sights = 0;
            living = (1 << n) - 1;
            place.fill(0);
            bond.fill(GOES);
            coughs.fill(0);
            cold.fill(0);
            for (int child = 0; child < n; child++) {
                name.put(child, child);
            }
        }

        void takeOver(Round other) {
            lands = other.lands;
            longDays = other.longDays;
            day = other.day;
            dayOfSeason = other.dayOfSeason;
            season = other.season;
            living = other.living;
            sights = other.sights;
            place.takeOver(other.place);
            name.takeOver(other.name);
            bond.takeOver(other.bond);
            coughs.takeOver(other.coughs);
            cold.takeOver(other.cold);
            sightName.takeOver(other.sightName);
            sightCoughed.takeOver(other.sightCoughed);
        }

        boolean has(int one) {
            return one >= 0 && one < lands;
        }

        boolean hasBoth(int one, int other) {
            return has(one) && has(other) && one != other;
        }

        boolean lives(int child) {
            return child >= 0 && child < lands && (living >> child & 1) == 1;
        }

        int bearerOf(int wanted) {
            for (int child = 0; child < lands; child++) {
                if (name.get(child) == wanted) {
                    return child;
                }
            }
            return NONE;
        }

        // ACTS: each answers why it can not be, or is so and answers CAN_BE

        int die(int child) {
            if (!lives(child)) {
                return ONE_IS_DEAD;
            }
            living &= ~(1 << child);
            return CAN_BE;
        }

        int bind(int child, int how) {
            if (!lives(child)) {
                return ONE_IS_DEAD;
            }
            if (bond.get(child) != GOES) {
                return IS_BOUND;
            }
            bond.put(child, how);
            return CAN_BE;
        }

        int changeHats(int child, int other) {
            if (!lives(child) || !lives(other)) {
                return ONE_IS_DEAD;
            }
            if (child == other) {
                return BOTH_ARE_ONE;
            }
            if (dayOfSeason != 0) {
                return NO_FIRST_DAY;
            }
            swapNames(child, other);
            return CAN_BE;
        }

        void swapNames(int child, int other) {
            int before = name.get(child);
            name.put(child, name.get(other));
            name.put(other, before);
        }

        void passDays(int days) {
            for (int left = days; left > 0; left--) {
                day++;
                dayOfSeason++;
                if (dayOfSeason >= longDays) {
                    passEquinox();
                }
            }
        }

        void passSeason() {
            day += longDays - dayOfSeason;
            passEquinox();
        }

        // One who is dead goes nowhere, but what he was bound by ends as if he lived.
        private void passEquinox() {
            dayOfSeason = 0;
            season++;
            for (int child = 0; child < lands; child++) {
                if (bond.get(child) == STAYS) {
                    bond.put(child, GOES);
                } else if (bond.get(child) == GOES && lives(child)) {
                    place.put(child, leftOver(place.get(child) + 1, lands - 1));
                    went.put(child, went.get(child) + 1);
                }
            }
        }

        // WHAT IS AHEAD, nothing else happening: from the next equinox on each CHILD is again
        // where it was behind n - 1 seasons, so who looks at n seasons and one has seen all.

        int landAfter(int child, int equinoxes) {
            if (!lives(child)) {
                return NONE;
            }
            int steps = equinoxes;
            if (bond.get(child) == STAYS) {
                steps = Math.max(0, equinoxes - 1);
            } else if (bond.get(child) == MARRIED) {
                steps = 0;
            }
            return leftOver(child + 1 + leftOver(place.get(child) + steps, lands - 1), lands);
        }

        int guestsAfter(int land, int equinoxes) {
            int guests = 0;
            for (int child = 0; child < lands; child++) {
                if (landAfter(child, equinoxes) == land) {
                    guests |= 1 << child;
                }
            }
            return guests;
        }

        boolean shareALand(int child, int other, int equinoxes) {
            int land = landAfter(child, equinoxes);
            return land != NONE && land == landAfter(other, equinoxes);
        }

        int equinoxesTill(int d) {
            return cut(dayOfSeason + d, longDays);
        }

        int firstDayAfter(int equinoxes) {
            return equinoxes <= 0 ? 0 : equinoxes * longDays - dayOfSeason;
        }

        // Of the days 0 to d less 1 those in the e-th season from now and in those
        // n - 1, 2 (n - 1).. seasons behind it, when all are where they are in that one.
        int daysLikeSeason(int e, int d) {
            int days = Math.max(0, d - firstDayAfter(1));
            int roundDays = (lands - 1) * longDays;
            int inLastRound = leftOver(days, roundDays) - (e - 1) * longDays;
            return cut(days, roundDays) * longDays + Math.max(0, Math.min(longDays, inLastRound));
        }

        int daysAway(int child, int land, int d) {
            int first = equinoxesTill(d);
            for (int e = first; e <= first + lands; e++) {
                if (landAfter(child, e) == land) {
                    return Math.max(0, Math.min(LAST_DAY, firstDayAfter(e) - d));
                }
            }
            return LAST_DAY;
        }

        // A WAR that MAY begin on a later day of a season MAY begin on its first day, or now.
        int firstWar(int king, int land, int w) {
            for (int e = 0; e <= lands; e++) {
                int d = firstDayAfter(e);
                if (d <= LAST_DAY && daysAway(king, land, d) >= w) {
                    return d;
                }
            }
            return NONE;
        }

        int fursAfter(int equinoxes) {
            int wanted = 0;
            for (int child = 0; child < lands; child++) {
                if (lives(child)) {
                    wanted += cold.get(landAfter(child, equinoxes));
                }
            }
            return wanted;
        }

        int ownNames() {
            int own = 0;
            for (int child = 0; child < lands; child++) {
                if (lives(child) && name.get(child) == child) {
                    own++;
                }
            }
            return own;
        }

        int emptyLands() {
            int empty = 0;
            for (int land = 0; land < lands; land++) {
                if (guestsAfter(land, 0) == 0) {
                    empty |= 1 << land;
                }
            }
            return empty;
        }
    }

    /** The text of YEARS. */
    private static final class Pad {
        final Row text = new Row(MOST_SIGNS);
        int signs;

        int add(int sign) {
            text.put(signs, sign);
            signs++;
            return signs;
        }

        int clear() {
            int before = signs;
            signs = 0;
            return before;
        }

        int firstFault(int lands) {
            int i = 0;
            while (i < signs) {
                int sign = text.get(i);
                if (isTime(sign)) {
                    i++;
                } else if (!isChild(sign, lands)) {
                    return i;
                } else if (i + 1 >= signs) {
                    return signs;
                } else if (!isFate(text.get(i + 1)) && !isChild(text.get(i + 1), lands)) {
                    return i + 1;
                } else {
                    i += 2;
                }
            }
            return NONE;
        }

        static boolean isTime(int sign) {
            return sign == '.' || sign == ':' || sign == ';';
        }

        private static boolean isFate(int sign) {
            return sign == 's' || sign == 'd' || sign == 'm';
        }

        private static boolean isChild(int sign, int lands) {
            return sign >= 'A' && sign < 'A' + lands;
        }
    }

    /** YEARS without a FAULT, tried ACT by ACT up to the first that can not be. */
    private static final class Years {
        int acts;
        int why;

        boolean canBe(Round from, Round round, Pad pad) {
            round.takeOver(from);
            round.went.fill(0);
            acts = 0;
            why = CAN_BE;
            int i = 0;
            while (i < pad.signs && why == CAN_BE) {
                int sign = pad.text.get(i);
                if (Pad.isTime(sign)) {
                    passTime(round, sign);
                    i++;
                } else {
                    why = befall(round, sign - 'A', pad.text.get(i + 1));
                    i += 2;
                }
                if (why == CAN_BE) {
                    acts++;
                }
            }
            return why == CAN_BE;
        }

        private static void passTime(Round round, int sign) {
            switch (sign) {
                case '.':
                    round.passDays(1);
                    break;
                case ':':
                    round.passDays(10);
                    break;
                default:
                    round.passSeason();
                    break;
            }
        }

        private static int befall(Round round, int child, int fate) {
            switch (fate) {
                case 'd': return round.die(child);
                case 's': return round.bind(child, STAYS);
                case 'm': return round.bind(child, MARRIED);
                default: return round.changeHats(child, fate - 'A');
            }
        }
    }

    /**
     * NAMES dealt out anew, counted without making the rows: NAMES that want one who coughs
     * go to such, those that want one who does not to such, and the others anyhow to the rest.
     */
    private static final class Deal {
        private static final int ANYONE = 0, ONE_WHO_COUGHS = 1, ONE_WHO_DOES_NOT = 2;

        private final Row wants = new Row(MOST_LANDS);
        private int openNames;
        private int coughing;
        private int quiet;
        private int wantCough;
        private int wantQuiet;
        private boolean nothingFits;

        void prepare(Round round) {
            openNames = 0;
            coughing = 0;
            quiet = 0;
            wantCough = 0;
            wantQuiet = 0;
            nothingFits = false;
            wants.fill(ANYONE);
            for (int child = 0; child < round.lands; child++) {
                if (round.lives(child)) {
                    takeBack(round.name.get(child), round.coughs.get(child) == 1);
                }
            }
            for (int i = 0; i < round.sights; i++) {
                heed(round.sightName.get(i), round.sightCoughed.get(i) == 1);
            }
        }

        private void heed(int name, boolean coughed) {
            int wanted = coughed ? ONE_WHO_COUGHS : ONE_WHO_DOES_NOT;
            if (!isOpen(name)) {
                nothingFits = true;
            } else if (wants.get(name) == ANYONE) {
                wants.put(name, wanted);
                countWant(name, 1);
            } else if (wants.get(name) != wanted) {
                nothingFits = true;
            }
        }

        private boolean isOpen(int name) {
            return (openNames >> name & 1) == 1;
        }

        private boolean suits(int name, boolean coughs) {
            return isOpen(name) && wants.get(name) != (coughs ? ONE_WHO_DOES_NOT : ONE_WHO_COUGHS);
        }

        private void countWant(int name, int more) {
            if (wants.get(name) == ONE_WHO_COUGHS) {
                wantCough += more;
            } else if (wants.get(name) == ONE_WHO_DOES_NOT) {
                wantQuiet += more;
            }
        }

        private void countBearer(boolean coughs, int more) {
            if (coughs) {
                coughing += more;
            } else {
                quiet += more;
            }
        }

        private void give(int name, boolean coughs) {
            openNames &= ~(1 << name);
            countWant(name, -1);
            countBearer(coughs, -1);
        }

        private void takeBack(int name, boolean coughs) {
            openNames |= 1 << name;
            countWant(name, 1);
            countBearer(coughs, 1);
        }

        int ways() {
            return nothingFits ? 0 : waysIf(wantCough, wantQuiet);
        }

        private int waysIf(int mustCough, int mustNot) {
            int others = coughing + quiet - mustCough - mustNot;
            return picks(coughing, mustCough) * picks(quiet, mustNot) * picks(others, others);
        }

        private static int picks(int from, int many) {
            if (many > from) {
                return 0;
            }
            int product = 1;
            for (int i = 0; i < many; i++) {
                product *= from - i;
            }
            return product;
        }

        int rowAt(Round round, int i) {
            int row = 0;
            int ahead = i;
            for (int child = 0; child < round.lands; child++) {
                int digit = DEAD_DIGIT;
                if (round.lives(child)) {
                    boolean coughs = round.coughs.get(child) == 1;
                    int name = 0;
                    while (name < round.lands && ahead >= waysWith(name, coughs)) {
                        ahead -= waysWith(name, coughs);
                        name++;
                    }
                    give(name, coughs);
                    digit = name;
                }
                row = 10 * row + digit;
            }
            return row;
        }

        private int waysWith(int name, boolean coughs) {
            if (!suits(name, coughs)) {
                return 0;
            }
            give(name, coughs);
            int with = ways();
            takeBack(name, coughs);
            return with;
        }

        int namesFor(Round round, int child) {
            int names = 0;
            for (int name = 0; name < round.lands; name++) {
                if (waysWith(name, round.coughs.get(child) == 1) > 0) {
                    names |= 1 << name;
                }
            }
            return names;
        }

        int nameToHear(int lands) {
            int best = NONE;
            for (int name = 0; name < lands; name++) {
                boolean better = best == NONE || mostLeftBy(name) < mostLeftBy(best);
                if (ways() > 0 && isOpen(name) && better) {
                    best = name;
                }
            }
            return best;
        }

        int mostLeftBy(int name) {
            int all = ways();
            if (wants.get(name) != ANYONE || nothingFits) {
                return all;
            }
            int ifItCoughs = waysIf(wantCough + 1, wantQuiet);
            return Math.max(ifItCoughs, all - ifItCoughs);
        }
    }

    /** The most twos that may marry, by sets of CHILDREN from the smallest on. */
    private static final class Weddings {
        private final Row mates = new Row(MOST_LANDS);
        private final Row twosOf = new Row(1 << MOST_LANDS);

        int mostTwos(Round round, int seasons) {
            for (int child = 0; child < round.lands; child++) {
                mates.put(child, matesOf(round, child, seasons));
            }
            int all = (1 << round.lands) - 1;
            twosOf.put(0, 0);
            for (int set = 1; set <= all; set++) {
                twosOf.put(set, bestOf(set));
            }
            return twosOf.get(all);
        }

        private int bestOf(int set) {
            int one = Integer.numberOfTrailingZeros(set);
            int others = set & ~(1 << one);
            int best = twosOf.get(others);
            for (int mate = one + 1; mate < MOST_LANDS; mate++) {
                if ((others & mates.get(one) & 1 << mate) != 0) {
                    best = Math.max(best, 1 + twosOf.get(others & ~(1 << mate)));
                }
            }
            return best;
        }

        private static int matesOf(Round round, int child, int seasons) {
            int set = 0;
            for (int other = 0; other < round.lands; other++) {
                if (other != child && isFree(round, child) && isFree(round, other)
                        && areApart(round, child, other, seasons)) {
                    set |= 1 << other;
                }
            }
            return set;
        }

        private static boolean isFree(Round round, int child) {
            return round.lives(child) && round.bond.get(child) != MARRIED;
        }

        private static boolean areApart(Round round, int child, int other, int seasons) {
            for (int e = 0; e < seasons; e++) {
                if (round.shareALand(child, other, e)) {
                    return false;
                }
            }
            return true;
        }
    }
}
