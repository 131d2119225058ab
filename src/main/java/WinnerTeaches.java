import java.util.NoSuchElementException;

/** Who wins must teach: a league in which whoever is beaten is taught by who beat it. */
public final class WinnerTeaches {
    public static final int NONE = -1;

    private static final int NEVER = -2;
    private static final int TOO_MANY = -3;
    private static final int ALL_CAN_BE = -2;
    private static final int NO_SIDES = -2;
    private static final int FINE = -1;

    private static final int MOST_SIDES = 8;
    private static final int MOST_ARTS = 4;
    private static final int MOST_SKILL = 7;
    private static final int MOST_TOTAL = MOST_SIDES * MOST_ARTS * MOST_SKILL;
    private static final int MOST_SEEN = 12;
    private static final int MOST_KEPT = 2;
    private static final int ROW_ROOM = 10;

    private static final int FIRST_WINS = 0;
    private static final int OTHER_WINS = 1;
    private static final int DRAWN = 2;

    private static final int SORT = 0;
    private static final int UP = 1;
    private static final int OWN = 2;
    private static final int EVEN = 3;
    private static final int EDGE = 4;

    private final Text text = new Text();
    private final League league = new League();
    private final Roster roster = new Roster();
    private final Standing now = new Standing();
    private final Standing scratch = new Standing();
    private final Past past = new Past();
    private final Kept[] kept = new Kept[MOST_KEPT];
    private final Search search;
    private final Season season;
    private Plan plan = new Plan();
    private Plan sparePlan = new Plan();
    private int nextRound = 0;

    private final int[] seenFirst = new int[MOST_SEEN];
    private final int[] seenOther = new int[MOST_SEEN];
    private final int[] seenResult = new int[MOST_SEEN];
    private int seenCount = 0;

    private final int[] perSide = new int[MOST_SIDES];
    private final long[] rowNumbers = new long[ROW_ROOM];
    private int rowCount = 0;

    public WinnerTeaches() {
        States states = new States();
        search = new Search(states);
        season = new Season(states);
        for (int i = 0; i < kept.length; i++) {
            kept[i] = new Kept();
        }
    }

    // ---- the league

    public int sign(int v) {
        return text.add(v) ? text.length : NONE;
    }

    public boolean end(int n) {
        return text.cut(n);
    }

    public int league() {
        if (text.length == 0) {
            return 0;
        }
        int wrong = roster.read(text, league, now);
        text.length = 0;
        if (wrong != FINE) {
            return -1 - wrong;
        }
        roster.enter(league, now);
        if (roster.wiped) {
            plan.clear();
            nextRound = 0;
            seenCount = 0;
        }
        past.length = 0;
        for (int i = 0; i < kept.length; i++) {
            kept[i].there = false;
        }
        return roster.lines;
    }

    public int rule() {
        int wrong = league.spareRule.compile(text);
        text.length = 0;
        if (wrong != FINE) {
            return -1 - wrong;
        }
        Rule old = league.rule;
        league.rule = league.spareRule;
        league.spareRule = old;
        return 0;
    }

    public int plan() {
        int wrong = sparePlan.compile(text, league.sides);
        text.length = 0;
        if (wrong != FINE) {
            return -1 - wrong;
        }
        Plan old = plan;
        plan = sparePlan;
        sparePlan = old;
        nextRound = 0;
        return plan.rounds;
    }

    public int skill(int side, int art) {
        return league.has(side) && league.knows(art) ? now.skillOf(side, art) : NONE;
    }

    public int of(int side, int what) throws NoSuchElementException {
        if (!league.has(side)) {
            throw new NoSuchElementException();
        }
        switch (what) {
            case 0:
                return league.power(now, side);
            case 1:
                return now.points[side];
            case 2:
                return now.raised[side];
            case 3:
                return league.isIll(side) ? 1 : 0;
            case 4:
                return now.thrown[side];
            default:
                throw new NoSuchElementException();
        }
    }

    public int law(int what, int v) {
        if (!League.allows(what, v)) {
            return NONE;
        }
        int old = league.law[what];
        league.law[what] = v;
        return old;
    }

    public int sheet(int art, int kind, int n, int f, int step) {
        if (!league.knows(art) || kind < 0 || kind > 3 || n > MOST_SIDES) {
            return NONE;
        }
        boolean missing = kind == 3;
        if (n < 0 && !missing) {
            return -2;
        }
        int sum = 0;
        for (int side = 0; side < league.sides; side++) {
            int v = missing || side >= n ? 0 : clamp(entry(kind, f + side * step), 0, MOST_SKILL);
            now.putSkill(side, art, v);
            sum += v;
        }
        past.length = 0;
        return missing ? -3 : sum;
    }

    private static int entry(int kind, int v) {
        return kind == 0 ? (byte) v : kind == 1 ? (short) v : v;
    }

    private static int clamp(int v, int least, int greatest) {
        return v < least ? least : v > greatest ? greatest : v;
    }

    public boolean ill(int side, boolean is) {
        if (!league.has(side)) {
            return false;
        }
        int bit = 1 << side;
        league.ill = is ? league.ill | bit : league.ill & ~bit;
        return true;
    }

    public boolean swap(int one, int other) {
        if (!league.canMeet(one, other)) {
            return false;
        }
        for (int art = 0; art < MOST_ARTS; art++) {
            int v = now.skillOf(one, art);
            now.putSkill(one, art, now.skillOf(other, art));
            now.putSkill(other, art, v);
        }
        past.length = 0;
        return true;
    }

    public int circle() {
        if (league.sides < 2) {
            return NONE;
        }
        plan.fillEachWithEach(league.sides);
        nextRound = 0;
        return plan.rounds;
    }

    // ---- games

    public int game(int one, int other, int thrown) {
        if (!league.canMeet(one, other) || thrown < 0 || thrown > 3) {
            return NONE;
        }
        scratch.copy(now);
        int result = league.result(scratch, one, other, thrown);
        league.settle(scratch, one, other, result, false);
        tell(league.taughtArt, league.taughtMore);
        return result;
    }

    public int odds(int one, int other) {
        return league.canMeet(one, other) ? league.chance(now, one, other) : NONE;
    }

    public int play(int one, int other, int thrown) {
        if (!league.canMeet(one, other) || thrown < 0 || thrown > 3) {
            return NONE;
        }
        int result = playNow(one, other, thrown);
        tell(now.points[one], now.points[other]);
        return result;
    }

    private int playNow(int one, int other, int thrown) {
        past.save(now);
        boolean byLuck = league.law[EDGE] > 0 && thrown == 0;
        int result = byLuck ? league.drawnResult(now, one, other) : league.result(now, one, other, thrown);
        if ((thrown & 1) != 0) {
            now.thrown[one]++;
        }
        if ((thrown & 2) != 0) {
            now.thrown[other]++;
        }
        league.settle(now, one, other, result, true);
        return result;
    }

    public int undo() {
        return past.takeBack(now) ? past.length : NONE;
    }

    public int judge(int n, int told) {
        if (n < 0 || n > 3) {
            return NONE;
        }
        scratch.copy(now);
        int answer = ALL_CAN_BE;
        for (int k = 0; k < n && answer == ALL_CAN_BE; k++) {
            if (!playTold(told >>> 10 * k & 1023)) {
                answer = k;
            }
        }
        tell(league.total(scratch) - league.total(now));
        return answer;
    }

    private boolean playTold(int code) {
        int what = code / 100;
        int one = code / 10 % 10;
        int other = code % 10;
        if (what > 2 || one >= other || !league.canMeet(one, other)) {
            return false;
        }
        league.settle(scratch, one, other, league.result(scratch, one, other, what), true);
        return true;
    }

    public int rounds(int n) {
        if (n < 0 || n > 200 || plan.rounds == 0) {
            return NONE;
        }
        int games = 0;
        int drawn = 0;
        for (int i = 0; i < n; i++) {
            int behind = plan.begin(nextRound + 1);
            for (int g = plan.begin(nextRound); g < behind; g++) {
                if (playNow(plan.first[g], plan.second[g], plan.thrown[g]) == DRAWN) {
                    drawn++;
                }
                games++;
            }
            nextRound = plan.after(nextRound);
        }
        tell(drawn, league.total(now));
        return games;
    }

    public int beats(int side) {
        if (!league.has(side)) {
            return NONE;
        }
        tell(sidesWithResult(side, DRAWN));
        return sidesWithResult(side, FIRST_WINS);
    }

    private int sidesWithResult(int side, int result) {
        int bits = 0;
        for (int other = 0; other < league.sides; other++) {
            if (other != side && league.result(now, side, other, 0) == result) {
                bits |= 1 << other;
            }
        }
        return bits;
    }

    public int kings() {
        int losers = 0;
        for (int side = 0; side < league.sides; side++) {
            perSide[side] = sidesWithResult(side, FIRST_WINS);
            if (perSide[side] == 0) {
                losers |= 1 << side;
            }
        }
        int kings = 0;
        for (int side = 0; side < league.sides; side++) {
            if (isKing(side)) {
                kings |= 1 << side;
            }
        }
        tell(losers);
        return kings;
    }

    private boolean isKing(int side) {
        int reached = perSide[side] | 1 << side;
        for (int other = 0; other < league.sides; other++) {
            if ((perSide[side] >> other & 1) != 0) {
                reached |= perSide[other];
            }
        }
        return reached == (1 << league.sides) - 1;
    }

    public int master(int art) {
        if (!league.knows(art)) {
            return NONE;
        }
        if (league.sides == 0) {
            return NO_SIDES;
        }
        int master = 0;
        int least = MOST_SKILL;
        for (int side = 0; side < league.sides; side++) {
            int v = now.skillOf(side, art);
            least = Math.min(least, v);
            if (v > now.skillOf(master, art)) {
                master = side;
            }
        }
        int most = now.skillOf(master, art);
        int equals = 0;
        for (int side = 0; side < league.sides; side++) {
            if (now.skillOf(side, art) == most) {
                equals |= 1 << side;
            }
        }
        tell(most, equals, least);
        return master;
    }

    public int table() {
        for (int side = 0; side < league.sides; side++) {
            perSide[side] = league.power(now, side);
        }
        for (int side = 0; side < league.sides; side++) {
            int ahead = 0;
            for (int other = 0; other < league.sides; other++) {
                if (other != side && standsAhead(other, side)) {
                    ahead++;
                }
            }
            rowNumbers[ahead] = side;
        }
        rowCount = league.sides;
        return league.sides;
    }

    private boolean standsAhead(int one, int other) {
        if (now.points[one] != now.points[other]) {
            return now.points[one] > now.points[other];
        }
        if (perSide[one] != perSide[other]) {
            return perSide[one] > perSide[other];
        }
        return one < other;
    }

    public int spread() {
        if (league.sides == 0) {
            rowCount = 0;
            return 0;
        }
        int strongest = league.strongest(now);
        int weakest = league.weakest(now);
        tell(strongest, weakest);
        return league.power(now, strongest) - league.power(now, weakest);
    }

    // ---- seasons without end

    public int rest() {
        if (plan.rounds == 0) {
            return NONE;
        }
        if (!season.findLoop(league, plan, now)) {
            return TOO_MANY;
        }
        tell(season.loop, season.states.total(season.tail));
        return season.tail;
    }

    public int mean(int side, int art) {
        if (!league.has(side) || !league.knows(art) || plan.rounds == 0) {
            return NONE;
        }
        if (!season.findLoop(league, plan, now)) {
            return TOO_MANY;
        }
        tellFraction(season.loopSum(side, art), season.loop);
        return 0;
    }

    public int soon(int side, int art, int v) {
        if (!league.has(side) || !league.knows(art) || v < 0 || v > MOST_SKILL || plan.rounds == 0) {
            return NONE;
        }
        boolean closed = season.findLoop(league, plan, now);
        int turn = season.states.firstWith(side, art, v);
        return turn >= 0 ? turn : closed ? NEVER : TOO_MANY;
    }

    // ---- luck, exactly

    public int wins(int side, int n, int k) {
        if (!league.has(side) || n < 1 || n > 6 || k < 0 || k > n || plan.rounds == 0) {
            return NONE;
        }
        long chances = 0;
        for (int way = 0; way < 1 << n; way++) {
            if (season.follow(league, plan, now, n, way) > 0 && season.won[side] == k) {
                chances += season.weight;
            }
        }
        tellFraction(chances, allChances(n));
        return 0;
    }

    public int hopes(int n) {
        if (n < 1 || n > 6 || plan.rounds == 0) {
            return NONE;
        }
        long sum = 0;
        int least = MOST_TOTAL;
        int greatest = 0;
        for (int way = 0; way < 1 << n; way++) {
            if (season.follow(league, plan, now, n, way) > 0) {
                int total = league.total(season.work);
                sum += season.weight * total;
                least = Math.min(least, total);
                greatest = Math.max(greatest, total);
            }
        }
        tellFraction(sum, allChances(n));
        rowNumbers[2] = least;
        rowNumbers[3] = greatest;
        rowCount = 4;
        return 0;
    }

    private static long allChances(int n) {
        long all = 1;
        for (int i = 0; i < n; i++) {
            all *= 100;
        }
        return all;
    }

    // ---- orders of play

    public int top(int side, int art, int v) {
        if (!league.has(side) || !league.knows(art) || v < 0 || v > MOST_SKILL) {
            return NONE;
        }
        if (!search.explore(league, now, States.MOST)) {
            return TOO_MANY;
        }
        return tellWayTo(search.states.firstWith(side, art, v));
    }

    public int quick(int v) {
        if (!search.explore(league, now, States.MOST)) {
            return TOO_MANY;
        }
        return tellWayTo(search.firstStrong(league, v));
    }

    private int tellWayTo(int goal) {
        if (goal < 0) {
            return NEVER;
        }
        search.fillWay(goal, rowNumbers);
        rowCount = Math.min(search.depth[goal], rowNumbers.length);
        return search.depth[goal];
    }

    public int best(int side, int n) {
        if (!league.has(side) || n < 0 || n > 9) {
            return NONE;
        }
        if (!search.explore(league, now, n)) {
            return TOO_MANY;
        }
        int power = search.greatestPower(league, side);
        tell(search.depth[search.found]);
        return power;
    }

    public int even(int n) {
        if (n < 0 || n > 9 || league.sides == 0) {
            return NONE;
        }
        if (!search.explore(league, now, n)) {
            return TOO_MANY;
        }
        int gap = search.leastGap(league);
        tell(search.depth[search.found]);
        return gap;
    }

    public int all() {
        if (!search.explore(league, now, States.MOST)) {
            return TOO_MANY;
        }
        int greatest = 0;
        int least = MOST_TOTAL;
        int longest = 0;
        for (int i = 0; i < search.states.length; i++) {
            int total = search.states.total(i);
            greatest = Math.max(greatest, total);
            least = Math.min(least, total);
            longest = Math.max(longest, search.depth[i]);
        }
        tell(greatest, least, longest);
        return search.states.length;
    }

    public int next(int side) {
        if (!league.has(side)) {
            return NONE;
        }
        if (league.sides < 2) {
            return NEVER;
        }
        scratch.copy(now);
        int chosen = NONE;
        int most = 0;
        for (int what = 0; what < 3; what++) {
            for (int one = 0; one < league.sides; one++) {
                for (int other = one + 1; other < league.sides; other++) {
                    int power = powerAfter(side, one, other, what);
                    if (chosen == NONE || power > most) {
                        chosen = 100 * what + 10 * one + other;
                        most = power;
                    }
                }
            }
        }
        tell(most);
        return chosen;
    }

    /** By POINTS and RAISED as they are ahead of the game: it is a search. */
    private int powerAfter(int side, int one, int other, int thrown) {
        league.settle(scratch, one, other, league.result(scratch, one, other, thrown), false);
        int power = league.power(scratch, side);
        scratch.copySkills(now, one);
        scratch.copySkills(now, other);
        return power;
    }

    // ---- who shows, who raises

    public int seen(int one, int other, int won) {
        if (!league.canMeet(one, other) || won < 0 || won > 2 || seenCount >= MOST_SEEN) {
            return NONE;
        }
        seenFirst[seenCount] = one;
        seenOther[seenCount] = other;
        seenResult[seenCount] = won;
        seenCount++;
        return seenCount;
    }

    public int found() {
        for (int side = 0; side < MOST_SIDES; side++) {
            perSide[side] = 0;
        }
        int bits = 0;
        for (int i = 0; i < seenCount; i++) {
            if (league.result(now, seenFirst[i], seenOther[i], 0) != seenResult[i]) {
                bits |= 1 << i;
                countThrowers(i);
            }
        }
        int most = 0;
        for (int side = 0; side < league.sides; side++) {
            if (perSide[side] > perSide[most]) {
                most = side;
            }
        }
        tell(Integer.bitCount(bits), bits == 0 ? NONE : most, perSide[most]);
        return bits;
    }

    private void countThrowers(int i) {
        if (seenResult[i] != FIRST_WINS) {
            perSide[seenFirst[i]]++;
        }
        if (seenResult[i] != OTHER_WINS) {
            perSide[seenOther[i]]++;
        }
    }

    public int prize() {
        if (league.sides == 0) {
            return NO_SIDES;
        }
        int first = 0;
        int sum = 0;
        for (int side = 0; side < league.sides; side++) {
            sum += now.raised[side];
            if (now.raised[side] > now.raised[first]) {
                first = side;
            }
        }
        tell(now.raised[first], sum);
        return first;
    }

    public int pays(int side, int n) {
        if (!league.has(side) || n < 0 || n > 50 || plan.rounds == 0) {
            return NONE;
        }
        playAhead(n);
        int asIs = scratch.points[side];
        league.ill ^= 1 << side;
        playAhead(n);
        league.ill ^= 1 << side;
        tell(asIs, scratch.points[side]);
        return asIs - scratch.points[side];
    }

    public int laws(int n) {
        if (n < 0 || n > 50 || plan.rounds == 0) {
            return NONE;
        }
        int sort = league.law[SORT];
        int first = 0;
        for (int s = 0; s < 4; s++) {
            league.law[SORT] = s;
            playAhead(n);
            rowNumbers[s] = league.total(scratch);
            if (rowNumbers[s] > rowNumbers[first]) {
                first = s;
            }
        }
        league.law[SORT] = sort;
        rowCount = 4;
        return first;
    }

    private void playAhead(int n) {
        scratch.copy(now);
        int round = nextRound;
        for (int i = 0; i < n; i++) {
            int behind = plan.begin(round + 1);
            for (int g = plan.begin(round); g < behind; g++) {
                int result = league.result(scratch, plan.first[g], plan.second[g], plan.thrown[g]);
                league.settle(scratch, plan.first[g], plan.second[g], result, true);
            }
            round = plan.after(round);
        }
    }

    // ---- kept

    public int seed(int v) {
        int old = now.luck;
        now.luck = v;
        return old;
    }

    public boolean keep(int i) {
        if (i < 0 || i >= kept.length) {
            return false;
        }
        kept[i].store(league, now, nextRound);
        return true;
    }

    public boolean again(int i) {
        if (i < 0 || i >= kept.length || !kept[i].there) {
            return false;
        }
        kept[i].restore(league, now);
        nextRound = plan.rounds > 0 ? kept[i].round % plan.rounds : 0;
        past.length = 0;
        return true;
    }

    public int count(int what) {
        switch (what) {
            case 0:
                return league.sides;
            case 1:
                return league.arts;
            case 2:
                return plan.rounds;
            case 3:
                return nextRound;
            case 4:
                return past.length;
            case 5:
                return seenCount;
            case 6:
                return rowCount;
            case 7:
                return text.length;
            case 8:
                return plan.games;
            default:
                return NONE;
        }
    }

    public long row(int i) throws NoSuchElementException {
        if (i < 0 || i >= rowCount) {
            throw new NoSuchElementException();
        }
        return rowNumbers[i];
    }

    private void tell(long a) {
        rowNumbers[0] = a;
        rowCount = 1;
    }

    private void tell(long a, long b) {
        rowNumbers[0] = a;
        rowNumbers[1] = b;
        rowCount = 2;
    }

    private void tell(long a, long b, long c) {
        rowNumbers[0] = a;
        rowNumbers[1] = b;
        rowNumbers[2] = c;
        rowCount = 3;
    }

    private void tellFraction(long upper, long lower) {
        long a = upper;
        long b = lower;
        // Euclid's steps on longs are fewer than a hundred
        for (int i = 0; i < 200 && b != 0; i++) {
            long left = a % b;
            a = b;
            b = left;
        }
        if (a == 0) {
            tell(upper, lower);
        } else {
            tell(upper / a, lower / a);
        }
    }

    /** THE TEXT: signs that were told, waiting for a call that reads them. */
    private static final class Text {
        static final int ROOM = 80;

        final char[] signs = new char[ROOM];
        int length = 0;

        boolean add(int v) {
            if (length > ROOM - 4) {
                return false;
            }
            for (int i = 0; i < 4; i++) {
                signs[length] = (char) (v >>> 24 - 8 * i & 255);
                length++;
            }
            return true;
        }

        boolean cut(int n) {
            if (n < 0 || n > length) {
                return false;
            }
            length = n;
            return true;
        }
    }

    /** All that games change. */
    private static final class Standing {
        final int[] skills = new int[MOST_SIDES * MOST_ARTS];
        final int[] points = new int[MOST_SIDES];
        final int[] raised = new int[MOST_SIDES];
        final int[] thrown = new int[MOST_SIDES];
        int luck = 1;

        int skillOf(int side, int art) {
            int i = side * MOST_ARTS + art;
            return i >= 0 && i < skills.length ? skills[i] : 0;
        }

        void putSkill(int side, int art, int v) {
            int i = side * MOST_ARTS + art;
            if (i >= 0 && i < skills.length) {
                skills[i] = v;
            }
        }

        int sum(int side, int arts) {
            int sum = 0;
            int behind = Math.min(side * MOST_ARTS + arts, skills.length);
            for (int i = Math.max(side, 0) * MOST_ARTS; i < behind; i++) {
                sum += skills[i];
            }
            return sum;
        }

        int greatest(int side, int arts) {
            int most = 0;
            int behind = Math.min(side * MOST_ARTS + arts, skills.length);
            for (int i = Math.max(side, 0) * MOST_ARTS; i < behind; i++) {
                most = Math.max(most, skills[i]);
            }
            return most;
        }

        int least(int side, int arts) {
            int least = MOST_SKILL;
            int behind = Math.min(side * MOST_ARTS + arts, skills.length);
            for (int i = Math.max(side, 0) * MOST_ARTS; i < behind; i++) {
                least = Math.min(least, skills[i]);
            }
            return least;
        }

        /** In which the teacher is furthest above, of equal ones the first; NONE without one. */
        int furthestArt(int teacher, int taught, int arts) {
            int chosen = NONE;
            int furthest = 0;
            int t = Math.max(teacher, 0) * MOST_ARTS;
            int p = Math.max(taught, 0) * MOST_ARTS;
            for (int art = 0; art < arts && t + art < skills.length && p + art < skills.length; art++) {
                int above = skills[t + art] - skills[p + art];
                if (above > furthest) {
                    furthest = above;
                    chosen = art;
                }
            }
            return chosen;
        }

        void copy(Standing from) {
            System.arraycopy(from.skills, 0, skills, 0, skills.length);
            System.arraycopy(from.points, 0, points, 0, MOST_SIDES);
            System.arraycopy(from.raised, 0, raised, 0, MOST_SIDES);
            System.arraycopy(from.thrown, 0, thrown, 0, MOST_SIDES);
            luck = from.luck;
        }

        void copySkills(Standing from, int side) {
            for (int art = 0; art < MOST_ARTS; art++) {
                putSkill(side, art, from.skillOf(side, art));
            }
        }

        void clearSide(int side) {
            for (int art = 0; art < MOST_ARTS; art++) {
                putSkill(side, art, 0);
            }
            points[side] = 0;
            raised[side] = 0;
            thrown[side] = 0;
        }
    }

    /** THE RULE: read sign by sign into an order in which things stand ahead of what joins them. */
    private static final class Rule {
        static final int MOST_SIGNS = 40;
        static final int MOST_DEPTH = 4;
        static final int MOST_POWER = 9999;
        // numbers are kept as they are (up to 999), all else from here on
        static final int SIGNS = 1000;
        // the - ahead of a thing: beyond 255, so that no sign of a text can be taken for it
        static final int NEGATE = 256;

        final int[] code = new int[MOST_SIGNS];
        final int[] values = new int[MOST_SIGNS];
        final int[] waiting = new int[MOST_SIGNS];
        final boolean[] compared = new boolean[MOST_DEPTH + 1];
        int length = 0;
        int waitingCount = 0;
        int depth = 0;
        int digits = 0;
        boolean wantsThing = true;

        /** FINE, or where the first sign is that can't stand there. */
        int compile(Text text) {
            length = 0;
            waitingCount = 0;
            depth = 0;
            digits = 0;
            wantsThing = true;
            compared[0] = false;
            if (text.length == 0) {
                return FINE;
            }
            int limit = Math.min(text.length, MOST_SIGNS);
            for (int p = 0; p < limit; p++) {
                if (!take(text.signs[p])) {
                    return p;
                }
            }
            if (text.length > MOST_SIGNS || wantsThing || depth > 0) {
                return limit;
            }
            release(1);
            return FINE;
        }

        private boolean take(char c) {
            if (c >= '0' && c <= '9') {
                return takeDigit(c - '0');
            }
            digits = 0;
            return wantsThing ? takeThing(c) : takeJoin(c);
        }

        private boolean takeDigit(int v) {
            if (wantsThing) {
                emit(v);
                digits = 1;
                wantsThing = false;
                return true;
            }
            if (digits == 0 || digits == 3 || length == 0) {
                return false;
            }
            code[length - 1] = code[length - 1] * 10 + v;
            digits++;
            return true;
        }

        private boolean takeThing(char c) {
            if (c == '-') {
                hold(NEGATE);
                return true;
            }
            if (c == '(') {
                if (depth >= MOST_DEPTH) {
                    return false;
                }
                depth++;
                compared[depth] = false;
                hold(c);
                return true;
            }
            if (!isThing(c)) {
                return false;
            }
            emit(SIGNS + c);
            wantsThing = false;
            return true;
        }

        private boolean takeJoin(char c) {
            if (c == ')') {
                if (depth == 0) {
                    return false;
                }
                release(1);
                waitingCount = Math.max(0, waitingCount - 1);
                depth--;
                return true;
            }
            int rank = rank(c);
            if (rank == 0 || rank == 1 && compared[depth]) {
                return false;
            }
            if (rank == 1) {
                compared[depth] = true;
            }
            release(rank);
            hold(c);
            wantsThing = true;
            return true;
        }

        private static boolean isThing(char c) {
            return c >= 'a' && c <= 'd' || c == 's' || c == 'm' || c == 'l' || c == 'i' || c == 'p' || c == 'r';
        }

        private static int rank(int c) {
            switch (c) {
                case '<':
                case '>':
                case '=':
                    return 1;
                case '+':
                case '-':
                    return 2;
                case '*':
                case '/':
                    return 3;
                case NEGATE:
                    return 4;
                default:
                    return 0;
            }
        }

        private void emit(int v) {
            if (length < MOST_SIGNS) {
                code[length] = v;
                length++;
            }
        }

        private void hold(int c) {
            if (waitingCount < MOST_SIGNS) {
                waiting[waitingCount] = c;
                waitingCount++;
            }
        }

        /** What binds as much as that or more, back to the last bracket, has all that it joins. */
        private void release(int rank) {
            for (int i = waitingCount - 1; i >= 0; i--) {
                if (rank(waiting[i]) < rank) {
                    break;
                }
                emit(SIGNS + waiting[i]);
                waitingCount = i;
            }
        }

        int value(Standing s, int side, int arts) {
            if (length == 0) {
                return s.sum(side, arts);
            }
            int height = 0;
            for (int i = 0; i < length; i++) {
                int c = code[i];
                int rank = c < SIGNS ? 0 : rank(c - SIGNS);
                if (rank == 0 && height < MOST_SIGNS) {
                    values[height] = c < SIGNS ? c : thing(c - SIGNS, s, side, arts);
                    height++;
                } else if (rank == 4 && height > 0) {
                    values[height - 1] = -values[height - 1];
                } else if (height > 1) {
                    height--;
                    values[height - 1] = joined(c - SIGNS, values[height - 1], values[height]);
                }
            }
            return clamp(values[0], -MOST_POWER, MOST_POWER);
        }

        private static int thing(int c, Standing s, int side, int arts) {
            switch (c) {
                case 's':
                    return s.sum(side, arts);
                case 'm':
                    return s.greatest(side, arts);
                case 'l':
                    return s.least(side, arts);
                case 'i':
                    return side;
                case 'p':
                    return s.points[side];
                case 'r':
                    return s.raised[side];
                default:
                    return c - 'a' < arts ? s.skillOf(side, c - 'a') : 0;
            }
        }

        private static int joined(int c, int a, int b) {
            switch (c) {
                case '<':
                    return a < b ? 1 : 0;
                case '>':
                    return a > b ? 1 : 0;
                case '=':
                    return a == b ? 1 : 0;
                case '+':
                    return a + b;
                case '-':
                    return a - b;
                case '*':
                    return a * b;
                default:
                    return b == 0 ? 0 : a / b;
            }
        }
    }

    /** THE PLAN: games in order, and where each round begins. */
    private static final class Plan {
        static final int MOST_SIGNS = 76;
        static final int MOST_ROUNDS = 12;
        static final int MOST_GAMES = MOST_ROUNDS * (MOST_SIDES / 2);
        static final int WANTS_FIRST = 0;
        static final int HAS_FIRST = 1;
        static final int WANTS_DASH = 2;
        static final int WANTS_SECOND = 3;
        static final int HAS_SECOND = 4;
        static final int GAME_DONE = 5;

        final int[] first = new int[MOST_GAMES];
        final int[] second = new int[MOST_GAMES];
        final int[] thrown = new int[MOST_GAMES];
        final int[] starts = new int[MOST_ROUNDS + 1];
        final int[] places = new int[MOST_SIDES];
        int rounds = 0;
        int games = 0;
        int state = WANTS_FIRST;
        int used = 0;

        void clear() {
            rounds = 0;
            games = 0;
        }

        /** The number of the first game of a round, behind the last one of all games. */
        int begin(int round) {
            return round >= 0 && round < rounds ? starts[round] : games;
        }

        int after(int round) {
            return round + 1 < rounds ? round + 1 : 0;
        }

        /** FINE, or where the first sign is that can't stand there. */
        int compile(Text text, int sides) {
            clear();
            if (text.length == 0) {
                return FINE;
            }
            openRound();
            int limit = Math.min(text.length, MOST_SIGNS);
            for (int p = 0; p < limit; p++) {
                if (!take(text.signs[p], sides)) {
                    return p;
                }
            }
            return text.length > MOST_SIGNS || state != HAS_SECOND && state != GAME_DONE ? limit : FINE;
        }

        private void openRound() {
            if (rounds < MOST_ROUNDS) {
                starts[rounds] = games;
            }
            rounds++;
            used = 0;
            state = WANTS_FIRST;
        }

        private boolean take(char c, int sides) {
            switch (state) {
                case WANTS_FIRST:
                case WANTS_SECOND:
                    return rounds <= MOST_ROUNDS && takeSide(c - '0', sides);
                case HAS_FIRST:
                    return takeThrow(c, 1, WANTS_DASH) || takeDash(c);
                case WANTS_DASH:
                    return takeDash(c);
                case HAS_SECOND:
                    return takeThrow(c, 2, GAME_DONE) || takeBreak(c);
                default:
                    return takeBreak(c);
            }
        }

        private boolean takeSide(int side, int sides) {
            if (side < 0 || side >= sides || (used >> side & 1) != 0) {
                return false;
            }
            used |= 1 << side;
            if (state == WANTS_FIRST) {
                addGame(side, side, 0);
                state = HAS_FIRST;
            } else {
                if (games > 0) {
                    second[games - 1] = side;
                }
                state = HAS_SECOND;
            }
            return true;
        }

        private boolean takeThrow(char c, int who, int then) {
            if (c != '!') {
                return false;
            }
            if (games > 0) {
                thrown[games - 1] |= who;
            }
            state = then;
            return true;
        }

        private boolean takeDash(char c) {
            if (c != '-') {
                return false;
            }
            state = WANTS_SECOND;
            return true;
        }

        private boolean takeBreak(char c) {
            if (c == ';') {
                openRound();
                return true;
            }
            state = WANTS_FIRST;
            return c == ',';
        }

        private void addGame(int one, int other, int who) {
            if (games < MOST_GAMES) {
                first[games] = one;
                second[games] = other;
                thrown[games] = who;
                games++;
            }
        }

        void fillEachWithEach(int sides) {
            clear();
            int size = Math.min(sides + (sides & 1), MOST_SIDES);
            for (int k = 0; k < size; k++) {
                places[k] = k;
            }
            for (int r = 0; r < size - 1; r++) {
                openRound();
                for (int k = 0; k < size / 2; k++) {
                    int one = places[k];
                    int other = places[size - 1 - k];
                    if (one < sides && other < sides) {
                        addGame(one, other, 0);
                    }
                }
                turnPlaces(size);
            }
        }

        private void turnPlaces(int size) {
            int last = places[size - 1];
            for (int k = size - 1; k > 1; k--) {
                places[k] = places[k - 1];
            }
            places[1] = last;
        }
    }

    /** Who is there, under which law, and what games do by it. */
    private static final class League {
        static final int BOTH = 3;

        final int[] law = {0, 1, 1, 0, 0};
        Rule rule = new Rule();
        Rule spareRule = new Rule();
        int sides = 0;
        int arts = 2;
        int ill = 0;
        int taughtArt = NONE;
        int taughtMore = 0;

        static boolean allows(int what, int v) {
            switch (what) {
                case SORT:
                    return v >= 0 && v <= 3;
                case UP:
                    return v >= 1 && v <= 3;
                case OWN:
                    return v >= 0 && v <= 2;
                case EVEN:
                    return v >= 0 && v <= 99;
                case EDGE:
                    return v >= 0 && v <= 50;
                default:
                    return false;
            }
        }

        boolean has(int side) {
            return side >= 0 && side < sides;
        }

        boolean knows(int art) {
            return art >= 0 && art < arts;
        }

        boolean isIll(int side) {
            return (ill >> side & 1) != 0;
        }

        boolean canMeet(int one, int other) {
            return has(one) && has(other) && one != other;
        }

        int power(Standing s, int side) {
            return rule.value(s, side, arts);
        }

        int strongest(Standing s) {
            int chosen = 0;
            int most = 0;
            for (int side = 0; side < sides; side++) {
                int power = power(s, side);
                if (side == 0 || power > most) {
                    chosen = side;
                    most = power;
                }
            }
            return chosen;
        }

        int weakest(Standing s) {
            int chosen = 0;
            int least = 0;
            for (int side = 0; side < sides; side++) {
                int power = power(s, side);
                if (side == 0 || power < least) {
                    chosen = side;
                    least = power;
                }
            }
            return chosen;
        }

        int total(Standing s) {
            int sum = 0;
            for (int side = 0; side < sides; side++) {
                sum += s.sum(side, arts);
            }
            return sum;
        }

        /** Without LUCK. */
        int result(Standing s, int one, int other, int thrown) {
            if (thrown == BOTH) {
                return DRAWN;
            }
            if (thrown != 0) {
                return thrown == 1 ? OTHER_WINS : FIRST_WINS;
            }
            // not by power(): calls go eight deep at most, with the library's counted
            return resultOf(rule.value(s, one, arts) - rule.value(s, other, arts));
        }

        int resultOf(int more) {
            return more > law[EVEN] ? FIRST_WINS : -more > law[EVEN] ? OTHER_WINS : DRAWN;
        }

        /** In 100, that the first one wins by LUCK. */
        int chance(Standing s, int one, int other) {
            return clamp(50 + law[EDGE] * (rule.value(s, one, arts) - rule.value(s, other, arts)), 0, 100);
        }

        int drawnResult(Standing s, int one, int other) {
            int chance = chance(s, one, other);
            s.luck = s.luck * 1103515245 + 12345;
            return (s.luck >>> 16) % 100 < chance ? FIRST_WINS : OTHER_WINS;
        }

        /** POINTS and RAISED change only if they are counting: searches leave them as they are. */
        void settle(Standing s, int one, int other, int result, boolean counting) {
            taughtArt = NONE;
            taughtMore = 0;
            if (counting) {
                givePoints(s, one, other, result);
            }
            if (result == DRAWN) {
                return;
            }
            int winner = result == FIRST_WINS ? one : other;
            int loser = result == FIRST_WINS ? other : one;
            if (law[SORT] == 0 || law[SORT] == 2) {
                teach(s, winner, loser, counting);
            }
            if (law[SORT] == 1 || law[SORT] == 2) {
                teach(s, loser, winner, counting);
            }
        }

        private static void givePoints(Standing s, int one, int other, int result) {
            if (result == DRAWN) {
                s.points[one]++;
                s.points[other]++;
            } else {
                s.points[result == FIRST_WINS ? one : other] += 3;
            }
        }

        private void teach(Standing s, int teacher, int taught, boolean counting) {
            int art = s.furthestArt(teacher, taught, arts);
            if (art == NONE) {
                return;
            }
            int have = s.skillOf(taught, art);
            int own = s.skillOf(teacher, art);
            int more = isIll(teacher) ? 0 : Math.min(law[UP], own - have);
            s.putSkill(taught, art, have + more);
            s.putSkill(teacher, art, clamp(own + law[OWN] - 1, 0, MOST_SKILL));
            if (counting) {
                s.raised[teacher] += more;
            }
            if (taughtArt == NONE) {
                taughtArt = art;
                taughtMore = more;
            }
        }
    }

    /** THE LEAGUE as a text tells it, apart from what there is till all of it was read. */
    private static final class Roster {
        static final int MOST_SIGNS = 76;
        static final int WANTS_LINE = 0;
        static final int WANTS_ARTS = 1;
        static final int IN_SIDE = 2;
        static final int LINE_DONE = 3;

        final Standing draft = new Standing();
        int sides = 0;
        int arts = 0;
        int ill = 0;
        int lines = 0;
        int digits = 0;
        int state = WANTS_LINE;
        boolean wiped = false;

        /** FINE, or where the first sign is that can't stand there. */
        int read(Text text, League league, Standing now) {
            draft.copy(now);
            sides = league.sides;
            arts = league.arts;
            ill = league.ill;
            lines = 0;
            state = WANTS_LINE;
            wiped = false;
            int limit = Math.min(text.length, MOST_SIGNS);
            for (int p = 0; p < limit; p++) {
                if (!take(text.signs[p])) {
                    return p;
                }
            }
            return text.length > MOST_SIGNS || !canEnd() ? limit : FINE;
        }

        void enter(League league, Standing now) {
            now.copy(draft);
            league.sides = sides;
            league.arts = arts;
            league.ill = ill;
        }

        private boolean canEnd() {
            return state == LINE_DONE || state == IN_SIDE && digits == arts;
        }

        private boolean take(char c) {
            if (c == ';' && canEnd()) {
                state = WANTS_LINE;
                return true;
            }
            switch (state) {
                case WANTS_LINE:
                    return takeLine(c);
                case WANTS_ARTS:
                    return takeArts(c - '0');
                case IN_SIDE:
                    return digits < arts ? takeSkill(c - '0') : takeIll(c);
                default:
                    return false;
            }
        }

        private boolean takeLine(char c) {
            lines++;
            if (c == 'w') {
                state = WANTS_ARTS;
                return true;
            }
            if (sides >= MOST_SIDES) {
                return false;
            }
            sides++;
            digits = 0;
            draft.clearSide(sides - 1);
            state = IN_SIDE;
            return takeSkill(c - '0');
        }

        private boolean takeArts(int v) {
            if (v < 1 || v > MOST_ARTS) {
                return false;
            }
            for (int side = 0; side < MOST_SIDES; side++) {
                draft.clearSide(side);
            }
            ill = 0;
            sides = 0;
            arts = v;
            wiped = true;
            state = LINE_DONE;
            return true;
        }

        private boolean takeSkill(int v) {
            if (v < 0 || v > MOST_SKILL) {
                return false;
            }
            draft.putSkill(sides - 1, digits, v);
            digits++;
            return true;
        }

        private boolean takeIll(char c) {
            if (c != '!' || sides == 0) {
                return false;
            }
            ill |= 1 << sides - 1;
            state = LINE_DONE;
            return true;
        }
    }

    /** What stood ahead of the latest games: a ring, so that the oldest falls out. */
    private static final class Past {
        static final int ROOM = 20;

        final Standing[] ring = new Standing[ROOM];
        int length = 0;
        int latest = 0;

        Past() {
            for (int i = 0; i < ROOM; i++) {
                ring[i] = new Standing();
            }
        }

        void save(Standing s) {
            latest = latest + 1 < ROOM ? latest + 1 : 0;
            ring[latest].copy(s);
            length = Math.min(length + 1, ROOM);
        }

        boolean takeBack(Standing s) {
            if (length == 0) {
                return false;
            }
            s.copy(ring[latest]);
            latest = latest > 0 ? latest - 1 : ROOM - 1;
            length--;
            return true;
        }
    }

    /** What stands under one of the numbers of keep(). */
    private static final class Kept {
        final Standing standing = new Standing();
        final int[] law = new int[EDGE + 1];
        int ill = 0;
        int round = 0;
        boolean there = false;

        void store(League league, Standing now, int nextRound) {
            standing.copy(now);
            ill = league.ill;
            System.arraycopy(league.law, 0, law, 0, law.length);
            round = nextRound;
            there = true;
        }

        void restore(League league, Standing now) {
            now.copy(standing);
            league.ill = ill;
            System.arraycopy(law, 0, league.law, 0, law.length);
        }
    }

    /** STATES in the order in which they came, each once, found again by a table of slots. */
    private static final class States {
        static final int MOST = 3000;
        static final int SLOTS = 8192;
        static final int SIDE_BITS = 3 * MOST_ARTS;
        static final int HALF = MOST_SIDES / 2;

        // SKILLS of sides 0 .. 3 and of 4 .. 7, three bits each
        final long[] low = new long[MOST];
        final long[] high = new long[MOST];
        final int[] slots = new int[SLOTS];
        final int[] slotOf = new int[MOST];
        int length = 0;
        boolean cameNew = false;

        void clear() {
            for (int i = 0; i < length; i++) {
                slots[slotOf[i]] = 0;
            }
            length = 0;
        }

        /** The number of the STATE that is there or comes behind the others; NONE without room. */
        int put(long a, long b) {
            int slot = (int) ((a * 0x9E3779B97F4A7C15L ^ b * 0xC2B2AE3D27D4EB4FL) >>> 40) & SLOTS - 1;
            cameNew = false;
            for (int i = 0; i < SLOTS && slots[slot] != 0; i++) {
                int number = slots[slot] - 1;
                if (low[number] == a && high[number] == b) {
                    return number;
                }
                slot = slot + 1 & SLOTS - 1;
            }
            if (length >= MOST) {
                return NONE;
            }
            low[length] = a;
            high[length] = b;
            slotOf[length] = slot;
            length++;
            slots[slot] = length;
            cameNew = true;
            return length - 1;
        }

        int putSkillsOf(Standing s) {
            long a = 0;
            long b = 0;
            for (int side = 0; side < HALF; side++) {
                a |= packed(s, side);
                b |= packed(s, side + HALF);
            }
            return put(a, b);
        }

        /** SKILLS of one side, at the place that they have in their half. */
        static long packed(Standing s, int side) {
            long bits = 0;
            for (int art = MOST_ARTS - 1; art >= 0; art--) {
                bits = bits << 3 | s.skillOf(side, art);
            }
            return bits << side % HALF * SIDE_BITS;
        }

        static long without(long half, int side) {
            return half & ~(4095L << side % HALF * SIDE_BITS);
        }

        int skillIn(int number, int side, int art) {
            long half = side < HALF ? low[number] : high[number];
            return (int) (half >>> side % HALF * SIDE_BITS + 3 * art) & 7;
        }

        void unpack(int number, int side, Standing into) {
            for (int art = 0; art < MOST_ARTS; art++) {
                into.putSkill(side, art, skillIn(number, side, art));
            }
        }

        int total(int number) {
            int sum = 0;
            for (int side = 0; side < MOST_SIDES; side++) {
                for (int art = 0; art < MOST_ARTS; art++) {
                    sum += skillIn(number, side, art);
                }
            }
            return sum;
        }

        /** The first STATE in which a side has v or more in an art; NONE without one. */
        int firstWith(int side, int art, int v) {
            for (int i = 0; i < length; i++) {
                if (skillIn(i, side, art) >= v) {
                    return i;
                }
            }
            return NONE;
        }
    }

    /**
     * All STATES that any games lead to, the nearest first. Games are tried from the least number
     * on, so that of equally short ways to a STATE the one that is found first is the least row.
     */
    private static final class Search {
        final States states;
        final Standing work = new Standing();
        final int[] powers = new int[MOST_SIDES];
        final int[] parent = new int[States.MOST];
        final int[] move = new int[States.MOST];
        final int[] depth = new int[States.MOST];
        int found = 0;

        Search(States shared) {
            states = shared;
        }

        /** False if there are too many. */
        boolean explore(League league, Standing from, int within) {
            work.copy(from);
            states.clear();
            states.putSkillsOf(work);
            parent[0] = NONE;
            move[0] = NONE;
            depth[0] = 0;
            for (int at = 0; at < States.MOST && at < states.length; at++) {
                if (depth[at] >= within) {
                    return true;
                }
                if (!expand(league, at)) {
                    return false;
                }
            }
            return true;
        }

        private boolean expand(League league, int at) {
            unpackAll(league, at);
            for (int side = 0; side < league.sides; side++) {
                powers[side] = league.power(work, side);
            }
            for (int what = 0; what < 3; what++) {
                for (int one = 0; one < league.sides; one++) {
                    for (int other = one + 1; other < league.sides; other++) {
                        if (!step(league, at, what, one, other)) {
                            return false;
                        }
                    }
                }
            }
            return true;
        }

        private boolean step(League league, int at, int what, int one, int other) {
            int honest = league.resultOf(powers[one] - powers[other]);
            int result = what == 0 ? honest : what == 1 ? OTHER_WINS : FIRST_WINS;
            // a thrown game that ends as the honest one leads where that led already
            if (result == DRAWN || what != 0 && result == honest) {
                return true;
            }
            league.settle(work, one, other, result, false);
            if (league.taughtArt == NONE) {
                return true;
            }
            int number = states.put(halfAfter(at, one, other, false), halfAfter(at, one, other, true));
            states.unpack(at, one, work);
            states.unpack(at, other, work);
            if (number == NONE) {
                return false;
            }
            if (states.cameNew) {
                parent[number] = at;
                move[number] = 100 * what + 10 * one + other;
                depth[number] = depth[at] + 1;
            }
            return true;
        }

        private long halfAfter(int at, int one, int other, boolean upper) {
            long half = upper ? states.high[at] : states.low[at];
            if (one >= States.HALF == upper) {
                half = States.without(half, one) | States.packed(work, one);
            }
            if (other >= States.HALF == upper) {
                half = States.without(half, other) | States.packed(work, other);
            }
            return half;
        }

        private void unpackAll(League league, int at) {
            for (int side = 0; side < league.sides; side++) {
                states.unpack(at, side, work);
            }
        }

        /** The first games on the way to a STATE. */
        void fillWay(int goal, long[] into) {
            int at = goal;
            for (int left = depth[goal]; left > 0 && at >= 0; left--) {
                if (left <= into.length) {
                    into[left - 1] = move[at];
                }
                at = parent[at];
            }
        }

        /** The first STATE in which all have that POWER or more; NONE without one. */
        int firstStrong(League league, int v) {
            for (int i = 0; i < states.length; i++) {
                unpackAll(league, i);
                boolean strong = true;
                for (int side = 0; side < league.sides && strong; side++) {
                    strong = league.power(work, side) >= v;
                }
                if (strong) {
                    return i;
                }
            }
            return NONE;
        }

        int greatestPower(League league, int side) {
            int most = 0;
            for (int i = 0; i < states.length; i++) {
                unpackAll(league, i);
                int power = league.power(work, side);
                if (i == 0 || power > most) {
                    most = power;
                    found = i;
                }
            }
            return most;
        }

        int leastGap(League league) {
            int least = 0;
            for (int i = 0; i < states.length; i++) {
                unpackAll(league, i);
                int gap = league.power(work, league.strongest(work)) - league.power(work, league.weakest(work));
                if (i == 0 || gap < least) {
                    least = gap;
                    found = i;
                }
            }
            return least;
        }
    }

    /** What THE PLAN leads to: turn by turn without LUCK, or by each way that LUCK can go. */
    private static final class Season {
        static final int MOST_TURNS = 2000;

        final States states;
        final Standing work = new Standing();
        final int[] won = new int[MOST_SIDES];
        int tail = 0;
        int loop = 0;
        long weight = 0;

        Season(States shared) {
            states = shared;
        }

        /** STATES behind each turn; true if one came again: the first of those that do, how many. */
        boolean findLoop(League league, Plan plan, Standing from) {
            work.copy(from);
            states.clear();
            states.putSkillsOf(work);
            for (int turn = 1; turn <= MOST_TURNS; turn++) {
                playTurn(league, plan);
                int number = states.putSkillsOf(work);
                if (!states.cameNew) {
                    tail = number;
                    loop = turn - number;
                    return true;
                }
            }
            return false;
        }

        private void playTurn(League league, Plan plan) {
            for (int g = 0; g < plan.games; g++) {
                int result = league.result(work, plan.first[g], plan.second[g], plan.thrown[g]);
                league.settle(work, plan.first[g], plan.second[g], result, false);
            }
        }

        int loopSum(int side, int art) {
            int sum = 0;
            for (int i = tail; i < states.length; i++) {
                sum += states.skillIn(i, side, art);
            }
            return sum;
        }

        /**
         * One way of the next n games: bit g of it says that the other one wins game g. Its weight
         * (of 100 to the n), and who won how many; 0: it can't go so.
         */
        long follow(League league, Plan plan, Standing from, int n, int way) {
            work.copy(from);
            for (int side = 0; side < MOST_SIDES; side++) {
                won[side] = 0;
            }
            weight = 1;
            int g = 0;
            for (int i = 0; i < n && weight > 0; i++) {
                followGame(league, plan, g, (way >> i & 1) != 0);
                g = g + 1 < plan.games ? g + 1 : 0;
            }
            return weight;
        }

        private void followGame(League league, Plan plan, int g, boolean otherWay) {
            int one = plan.first[g];
            int other = plan.second[g];
            int chance = plan.thrown[g] != 0 ? 100 : league.chance(work, one, other);
            weight *= otherWay ? 100 - chance : chance;
            int result = otherWay ? OTHER_WINS : FIRST_WINS;
            if (plan.thrown[g] != 0) {
                result = league.result(work, one, other, plan.thrown[g]);
            }
            if (result != DRAWN) {
                won[result == FIRST_WINS ? one : other]++;
            }
            league.settle(work, one, other, result, true);
        }
    }
}
