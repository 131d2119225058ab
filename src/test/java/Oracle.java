import java.math.BigInteger;
import java.util.ArrayList;
import java.util.Arrays;
import java.util.HashMap;
import java.util.HashSet;
import java.util.List;
import java.util.Map;
import java.util.NoSuchElementException;
import java.util.Set;

/**
 * The document once more, as slowly and plainly as it can be told, with the whole Java library:
 * RandomRunsTest holds the class against it.
 */
final class Oracle {
    static final int NONE = -1;

    static final class Side implements Cloneable {
        int[] skills;
        boolean ill;
        int points;
        int raised;
        int thrown;

        Side copy() {
            Side s = new Side();
            s.skills = skills.clone();
            s.ill = ill;
            s.points = points;
            s.raised = raised;
            s.thrown = thrown;
            return s;
        }
    }

    static final class Wrong extends RuntimeException {
        final int at;

        Wrong(int at) {
            this.at = at;
        }
    }

    static final class Snapshot {
        List<Side> sides;
        int[] law;
        int round;
        int r;
    }

    String text = "";
    int arts = 2;
    List<Side> sides = new ArrayList<>();
    String rule = "";
    List<List<int[]>> plan = new ArrayList<>();
    int round = 0;
    int[] law = {0, 1, 1, 0, 0};
    int r = 1;
    List<long[]> row = new ArrayList<>();
    List<Snapshot> past = new ArrayList<>();
    Snapshot[] kept = new Snapshot[2];
    List<int[]> seen = new ArrayList<>();

    void tell(long... numbers) {
        row.clear();
        for (long n : numbers) {
            row.add(new long[] {n});
        }
    }

    static List<Side> copies(List<Side> from) {
        List<Side> copy = new ArrayList<>();
        for (Side s : from) {
            copy.add(s.copy());
        }
        return copy;
    }

    boolean there(int side) {
        return side >= 0 && side < sides.size();
    }

    boolean art(int art) {
        return art >= 0 && art < arts;
    }

    boolean two(int one, int other) {
        return there(one) && there(other) && one != other;
    }

    // ---- texts

    int sign(int v) {
        if (text.length() + 4 > 80) {
            return NONE;
        }
        StringBuilder b = new StringBuilder(text);
        for (int shift = 24; shift >= 0; shift -= 8) {
            b.append((char) ((v >>> shift) & 0xff));
        }
        text = b.toString();
        return text.length();
    }

    boolean end(int n) {
        if (n < 0 || n > text.length()) {
            return false;
        }
        text = text.substring(0, n);
        return true;
    }

    String taken() {
        String t = text;
        text = "";
        return t;
    }

    /** A wrong place in the first signs, or behind them if there are more. */
    static void checkLength(String t, int limit) {
        if (t.length() > limit) {
            throw new Wrong(limit);
        }
    }

    static char at(String t, int p, int limit) {
        return p < t.length() && p < limit ? t.charAt(p) : (char) 0x7fff;
    }

    int league() {
        String t = taken();
        if (t.isEmpty()) {
            return 0;
        }
        try {
            return league(t);
        } catch (Wrong w) {
            return -1 - w.at;
        }
    }

    int league(String t) {
        List<Side> drafts = copies(sides);
        int draftArts = arts;
        boolean wiped = false;
        int lines = 0;
        int p = 0;
        while (true) {
            lines++;
            if (at(t, p, 76) == 'w') {
                p++;
                char c = at(t, p, 76);
                if ("1234".indexOf(c) < 0) {
                    throw new Wrong(p);
                }
                p++;
                draftArts = c - '0';
                drafts.clear();
                wiped = true;
            } else {
                if (drafts.size() == 8) {
                    throw new Wrong(p);
                }
                Side side = new Side();
                side.skills = new int[draftArts];
                for (int a = 0; a < draftArts; a++) {
                    char c = at(t, p, 76);
                    if ("01234567".indexOf(c) < 0) {
                        throw new Wrong(p);
                    }
                    side.skills[a] = c - '0';
                    p++;
                }
                if (at(t, p, 76) == '!') {
                    side.ill = true;
                    p++;
                }
                drafts.add(side);
            }
            if (p >= Math.min(76, t.length())) {
                break;
            }
            if (at(t, p, 76) != ';') {
                throw new Wrong(p);
            }
            p++;
        }
        checkLength(t, 76);
        sides = drafts;
        arts = draftArts;
        if (wiped) {
            plan = new ArrayList<>();
            round = 0;
            seen.clear();
        }
        past.clear();
        Arrays.fill(kept, null);
        return lines;
    }

    /** Recursive descent over the text itself: it tells wrong places, and values of a side. */
    final class Reader {
        final String t;
        final List<Side> in;
        final int who;
        int p = 0;

        Reader(String t, List<Side> in, int who) {
            this.t = t;
            this.in = in;
            this.who = who;
        }

        char now() {
            return at(t, p, 40);
        }

        int whole() {
            int v = expression(0);
            if (p < Math.min(40, t.length())) {
                throw new Wrong(p);
            }
            checkLength(t, 40);
            return v;
        }

        int expression(int depth) {
            int v = sum(depth);
            char c = now();
            if (c == '<' || c == '>' || c == '=') {
                p++;
                int w = sum(depth);
                return (c == '<' ? v < w : c == '>' ? v > w : v == w) ? 1 : 0;
            }
            return v;
        }

        int sum(int depth) {
            int v = product(depth);
            while (now() == '+' || now() == '-') {
                char c = now();
                p++;
                int w = product(depth);
                v = c == '+' ? v + w : v - w;
            }
            return v;
        }

        int product(int depth) {
            int v = signed(depth);
            while (now() == '*' || now() == '/') {
                char c = now();
                p++;
                int w = signed(depth);
                v = c == '*' ? v * w : w == 0 ? 0 : v / w;
            }
            return v;
        }

        int signed(int depth) {
            if (now() == '-') {
                p++;
                return -signed(depth);
            }
            return thing(depth);
        }

        int thing(int depth) {
            char c = now();
            if (c >= '0' && c <= '9') {
                int v = 0;
                for (int k = 0; k < 3 && now() >= '0' && now() <= '9'; k++) {
                    v = 10 * v + now() - '0';
                    p++;
                }
                return v;
            }
            if (c == '(' && depth < 4) {
                p++;
                int v = expression(depth + 1);
                if (now() != ')') {
                    throw new Wrong(p);
                }
                p++;
                return v;
            }
            if ("abcdsmlipr".indexOf(c) < 0) {
                throw new Wrong(p);
            }
            p++;
            return in == null ? 1 : letter(c);
        }

        int letter(char c) {
            Side side = in.get(who);
            switch (c) {
                case 's':
                    return Arrays.stream(side.skills).sum();
                case 'm':
                    return Arrays.stream(side.skills).max().getAsInt();
                case 'l':
                    return Arrays.stream(side.skills).min().getAsInt();
                case 'i':
                    return who;
                case 'p':
                    return side.points;
                case 'r':
                    return side.raised;
                default:
                    return c - 'a' < side.skills.length ? side.skills[c - 'a'] : 0;
            }
        }
    }

    int rule() {
        String t = taken();
        try {
            if (!t.isEmpty()) {
                new Reader(t, null, 0).whole();
            }
            rule = t;
            return 0;
        } catch (Wrong w) {
            return -1 - w.at;
        }
    }

    int plan() {
        String t = taken();
        try {
            plan = t.isEmpty() ? new ArrayList<>() : readPlan(t);
            round = 0;
            return plan.size();
        } catch (Wrong w) {
            return -1 - w.at;
        }
    }

    List<List<int[]>> readPlan(String t) {
        List<List<int[]>> rounds = new ArrayList<>();
        int end = Math.min(76, t.length());
        int p = 0;
        while (true) {
            if (rounds.size() == 12) {
                throw new Wrong(p);
            }
            List<int[]> games = new ArrayList<>();
            Set<Integer> busy = new HashSet<>();
            while (true) {
                int[] game = new int[3];
                for (int k = 0; k < 2; k++) {
                    int side = at(t, p, 76) - '0';
                    if (!there(side) || !busy.add(side)) {
                        throw new Wrong(p);
                    }
                    game[k] = side;
                    p++;
                    if (at(t, p, 76) == '!') {
                        game[2] += 1 + k;
                        p++;
                    }
                    if (k == 0) {
                        if (at(t, p, 76) != '-') {
                            throw new Wrong(p);
                        }
                        p++;
                    }
                }
                games.add(game);
                if (at(t, p, 76) != ',') {
                    break;
                }
                p++;
            }
            rounds.add(games);
            if (p == end) {
                break;
            }
            if (at(t, p, 76) != ';') {
                throw new Wrong(p);
            }
            p++;
        }
        checkLength(t, 76);
        return rounds;
    }

    // ---- the league

    int power(List<Side> in, int side) {
        if (rule.isEmpty()) {
            return Arrays.stream(in.get(side).skills).sum();
        }
        return Math.max(-9999, Math.min(9999, new Reader(rule, in, side).whole()));
    }

    int skill(int side, int art) {
        return there(side) && art(art) ? sides.get(side).skills[art] : NONE;
    }

    int of(int side, int what) {
        if (!there(side) || what < 0 || what > 4) {
            throw new NoSuchElementException();
        }
        Side s = sides.get(side);
        return new int[] {power(sides, side), s.points, s.raised, s.ill ? 1 : 0, s.thrown}[what];
    }

    int law(int what, int v) {
        int[] least = {0, 1, 0, 0, 0};
        int[] most = {3, 3, 2, 99, 50};
        if (what < 0 || what > 4 || v < least[what] || v > most[what]) {
            return NONE;
        }
        int old = law[what];
        law[what] = v;
        return old;
    }

    int sheet(int art, int kind, int n, int f, int step) {
        if (!art(art) || kind < 0 || kind > 3 || n > 8) {
            return NONE;
        }
        if (kind < 3 && n < 0) {
            return -2;
        }
        past.clear();
        for (Side s : sides) {
            s.skills[art] = 0;
        }
        if (kind == 3) {
            return -3;
        }
        int v = f;
        int sum = 0;
        for (int k = 0; k < n; k++) {
            int entry = kind == 0 ? (byte) v : kind == 1 ? (short) v : v;
            entry = Math.max(0, Math.min(7, entry));
            if (k < sides.size()) {
                sides.get(k).skills[art] = entry;
                sum += entry;
            }
            v += step;
        }
        return sum;
    }

    boolean ill(int side, boolean is) {
        if (!there(side)) {
            return false;
        }
        sides.get(side).ill = is;
        return true;
    }

    boolean swap(int one, int other) {
        if (!two(one, other)) {
            return false;
        }
        int[] s = sides.get(one).skills;
        sides.get(one).skills = sides.get(other).skills;
        sides.get(other).skills = s;
        past.clear();
        return true;
    }

    int circle() {
        if (sides.size() < 2) {
            return NONE;
        }
        List<Integer> places = new ArrayList<>();
        for (int k = 0; k < sides.size() || k % 2 == 1; k++) {
            places.add(k);
        }
        plan = new ArrayList<>();
        for (int k = 1; k < places.size(); k++) {
            List<int[]> games = new ArrayList<>();
            for (int one = 0, other = places.size() - 1; one < other; one++, other--) {
                if (there(places.get(one)) && there(places.get(other))) {
                    games.add(new int[] {places.get(one), places.get(other), 0});
                }
            }
            plan.add(games);
            places.add(1, places.remove(places.size() - 1));
        }
        round = 0;
        return plan.size();
    }

    // ---- games

    int result(List<Side> in, int one, int other, int thrown) {
        switch (thrown) {
            case 1:
                return 1;
            case 2:
                return 0;
            case 3:
                return 2;
            default:
                int a = power(in, one);
                int b = power(in, other);
                return a > b + law[3] ? 0 : b > a + law[3] ? 1 : 2;
        }
    }

    /** What was taught: the art and how much, one after the other. */
    List<int[]> teach(List<Side> in, int one, int other, int result, boolean counting) {
        List<int[]> taught = new ArrayList<>();
        if (counting) {
            in.get(one).points += result == 0 ? 3 : result == 2 ? 1 : 0;
            in.get(other).points += result == 1 ? 3 : result == 2 ? 1 : 0;
        }
        if (result == 2 || law[0] == 3) {
            return taught;
        }
        Side winner = in.get(result == 0 ? one : other);
        Side loser = in.get(result == 0 ? other : one);
        if (law[0] != 1) {
            taughtBy(winner, loser, counting, taught);
        }
        if (law[0] != 0) {
            taughtBy(loser, winner, counting, taught);
        }
        return taught;
    }

    void taughtBy(Side teacher, Side pupil, boolean counting, List<int[]> taught) {
        int best = 0;
        for (int a = 0; a < arts; a++) {
            best = Math.max(best, teacher.skills[a] - pupil.skills[a]);
        }
        for (int a = 0; a < arts; a++) {
            if (best > 0 && teacher.skills[a] - pupil.skills[a] == best) {
                int more = 0;
                while (!teacher.ill && more < law[1] && pupil.skills[a] < teacher.skills[a]) {
                    more++;
                    pupil.skills[a]++;
                }
                teacher.skills[a] = Math.max(0, Math.min(7, teacher.skills[a] + law[2] - 1));
                if (counting) {
                    teacher.raised += more;
                }
                taught.add(new int[] {a, more});
                return;
            }
        }
    }

    int game(int one, int other, int thrown) {
        if (!two(one, other) || thrown < 0 || thrown > 3) {
            return NONE;
        }
        int result = result(sides, one, other, thrown);
        List<int[]> taught = teach(copies(sides), one, other, result, false);
        if (taught.isEmpty()) {
            tell(NONE, 0);
        } else {
            tell(taught.get(0)[0], taught.get(0)[1]);
        }
        return result;
    }

    int chance(List<Side> in, int one, int other) {
        return Math.max(0, Math.min(100, 50 + law[4] * (power(in, one) - power(in, other))));
    }

    int odds(int one, int other) {
        return two(one, other) ? chance(sides, one, other) : NONE;
    }

    int playNow(int one, int other, int thrown) {
        past.add(snapshot());
        if (past.size() > 20) {
            past.remove(0);
        }
        int result;
        if (law[4] > 0 && thrown == 0) {
            int chance = chance(sides, one, other);
            r = r * 1103515245 + 12345;
            long positive = r & 0xffffffffL;
            result = positive / 65536 % 100 < chance ? 0 : 1;
        } else {
            result = result(sides, one, other, thrown);
        }
        sides.get(one).thrown += thrown & 1;
        sides.get(other).thrown += thrown >> 1;
        teach(sides, one, other, result, true);
        return result;
    }

    int play(int one, int other, int thrown) {
        if (!two(one, other) || thrown < 0 || thrown > 3) {
            return NONE;
        }
        int result = playNow(one, other, thrown);
        tell(sides.get(one).points, sides.get(other).points);
        return result;
    }

    int undo() {
        if (past.isEmpty()) {
            return NONE;
        }
        Snapshot back = past.remove(past.size() - 1);
        for (int k = 0; k < sides.size(); k++) {
            boolean ill = sides.get(k).ill;
            sides.set(k, back.sides.get(k));
            sides.get(k).ill = ill;
        }
        r = back.r;
        return past.size();
    }

    int total(List<Side> in) {
        return in.stream().mapToInt(s -> Arrays.stream(s.skills).sum()).sum();
    }

    int judge(int n, int told) {
        if (n < 0 || n > 3) {
            return NONE;
        }
        List<Side> copy = copies(sides);
        int answer = -2;
        for (int k = 0; k < n; k++) {
            int code = (told >> (10 * k)) % 1024;
            code = code < 0 ? code + 1024 : code;
            int one = code / 10 % 10;
            int other = code % 10;
            if (code >= 300 || one >= other || !two(one, other)) {
                answer = k;
                break;
            }
            teach(copy, one, other, result(copy, one, other, code / 100), true);
        }
        tell(total(copy) - total(sides));
        return answer;
    }

    int rounds(int n) {
        if (n < 0 || n > 200 || plan.isEmpty()) {
            return NONE;
        }
        int games = 0;
        int drawn = 0;
        for (int i = 0; i < n; i++) {
            for (int[] g : plan.get(round)) {
                games++;
                drawn += playNow(g[0], g[1], g[2]) == 2 ? 1 : 0;
            }
            round = (round + 1) % plan.size();
        }
        tell(drawn, total(sides));
        return games;
    }

    int bits(int side, int result) {
        int bits = 0;
        for (int k = 0; k < sides.size(); k++) {
            if (k != side && result(sides, side, k, 0) == result) {
                bits += 1 << k;
            }
        }
        return bits;
    }

    int beats(int side) {
        if (!there(side)) {
            return NONE;
        }
        tell(bits(side, 2));
        return bits(side, 0);
    }

    boolean beat(int one, int other) {
        return one != other && result(sides, one, other, 0) == 0;
    }

    int kings() {
        int kings = 0;
        int losers = 0;
        for (int k = 0; k < sides.size(); k++) {
            boolean king = true;
            for (int other = 0; other < sides.size(); other++) {
                boolean reaches = k == other || beat(k, other);
                for (int mid = 0; mid < sides.size(); mid++) {
                    reaches |= beat(k, mid) && beat(mid, other);
                }
                king &= reaches;
            }
            kings += king ? 1 << k : 0;
            losers += bits(k, 0) == 0 ? 1 << k : 0;
        }
        tell(losers);
        return kings;
    }

    int master(int art) {
        if (!art(art)) {
            return NONE;
        }
        if (sides.isEmpty()) {
            return -2;
        }
        int most = sides.stream().mapToInt(s -> s.skills[art]).max().getAsInt();
        int least = sides.stream().mapToInt(s -> s.skills[art]).min().getAsInt();
        int first = -1;
        int bits = 0;
        for (int k = sides.size() - 1; k >= 0; k--) {
            if (sides.get(k).skills[art] == most) {
                first = k;
                bits += 1 << k;
            }
        }
        tell(most, bits, least);
        return first;
    }

    int table() {
        List<Integer> order = new ArrayList<>();
        for (int k = 0; k < sides.size(); k++) {
            order.add(k);
        }
        order.sort((a, b) -> {
            int c = Integer.compare(sides.get(b).points, sides.get(a).points);
            c = c != 0 ? c : Integer.compare(power(sides, b), power(sides, a));
            return c != 0 ? c : Integer.compare(a, b);
        });
        tell(order.stream().mapToLong(k -> k).toArray());
        return sides.size();
    }

    /** Strongest, weakest, by how much they differ. */
    int[] ends(List<Side> in) {
        int strong = 0;
        int weak = 0;
        for (int k = 0; k < in.size(); k++) {
            strong = power(in, k) > power(in, strong) ? k : strong;
            weak = power(in, k) < power(in, weak) ? k : weak;
        }
        return new int[] {strong, weak, power(in, strong) - power(in, weak)};
    }

    int spread() {
        if (sides.isEmpty()) {
            tell();
            return 0;
        }
        int[] ends = ends(sides);
        tell(ends[0], ends[1]);
        return ends[2];
    }

    // ---- seasons without end

    static String key(List<Side> in) {
        StringBuilder b = new StringBuilder();
        for (Side s : in) {
            for (int v : s.skills) {
                b.append(v);
            }
        }
        return b.toString();
    }

    /** STATES behind 0, 1, .. turns, till one comes again (which is told last) or 2000 were. */
    List<List<Side>> turns(boolean[] closed) {
        List<List<Side>> all = new ArrayList<>();
        Set<String> known = new HashSet<>();
        List<Side> at = copies(sides);
        while (all.size() <= 2000) {
            all.add(copies(at));
            if (!known.add(key(at))) {
                closed[0] = true;
                break;
            }
            for (List<int[]> games : plan) {
                for (int[] g : games) {
                    teach(at, g[0], g[1], result(at, g[0], g[1], g[2]), false);
                }
            }
        }
        return all;
    }

    static int firstLike(List<List<Side>> all) {
        String last = key(all.get(all.size() - 1));
        for (int k = 0; ; k++) {
            if (key(all.get(k)).equals(last)) {
                return k;
            }
        }
    }

    int rest() {
        if (plan.isEmpty()) {
            return NONE;
        }
        boolean[] closed = {false};
        List<List<Side>> all = turns(closed);
        if (!closed[0]) {
            return -3;
        }
        int tail = firstLike(all);
        tell(all.size() - 1 - tail, total(all.get(tail)));
        return tail;
    }

    void fraction(BigInteger upper, BigInteger lower, long... more) {
        BigInteger g = upper.gcd(lower);
        long[] numbers = new long[2 + more.length];
        numbers[0] = upper.divide(g).longValueExact();
        numbers[1] = lower.divide(g).longValueExact();
        System.arraycopy(more, 0, numbers, 2, more.length);
        tell(numbers);
    }

    int mean(int side, int art) {
        if (!there(side) || !art(art) || plan.isEmpty()) {
            return NONE;
        }
        boolean[] closed = {false};
        List<List<Side>> all = turns(closed);
        if (!closed[0]) {
            return -3;
        }
        int tail = firstLike(all);
        int sum = 0;
        for (int k = tail + 1; k < all.size(); k++) {
            sum += all.get(k).get(side).skills[art];
        }
        fraction(BigInteger.valueOf(sum), BigInteger.valueOf(all.size() - 1 - tail));
        return 0;
    }

    int soon(int side, int art, int v) {
        if (!there(side) || !art(art) || v < 0 || v > 7 || plan.isEmpty()) {
            return NONE;
        }
        boolean[] closed = {false};
        List<List<Side>> all = turns(closed);
        for (int k = 0; k < all.size(); k++) {
            if (all.get(k).get(side).skills[art] >= v) {
                return k;
            }
        }
        return closed[0] ? -2 : -3;
    }

    // ---- luck

    static final BigInteger HUNDRED = BigInteger.valueOf(100);

    /** Each way of n games: sides then, its weight of 100 to the n, who won each (NONE: nobody). */
    void ways(List<Side> at, int k, int n, BigInteger weight, List<Integer> winners, List<Object[]> out) {
        if (weight.signum() == 0) {
            return;
        }
        if (k == n) {
            out.add(new Object[] {at, weight, new ArrayList<>(winners)});
            return;
        }
        List<int[]> games = new ArrayList<>();
        plan.forEach(games::addAll);
        int[] g = games.get(k % games.size());
        int[] chances = {0, 0, 0};
        if (g[2] != 0) {
            chances[result(at, g[0], g[1], g[2])] = 100;
        } else {
            chances[0] = chance(at, g[0], g[1]);
            chances[1] = 100 - chances[0];
        }
        for (int result = 0; result < 3; result++) {
            List<Side> then = copies(at);
            teach(then, g[0], g[1], result, true);
            winners.add(result == 2 ? NONE : g[result]);
            ways(then, k + 1, n, weight.multiply(BigInteger.valueOf(chances[result])), winners, out);
            winners.remove(winners.size() - 1);
        }
    }

    int wins(int side, int n, int k) {
        if (!there(side) || n < 1 || n > 6 || k < 0 || k > n || plan.isEmpty()) {
            return NONE;
        }
        List<Object[]> out = new ArrayList<>();
        ways(copies(sides), 0, n, BigInteger.ONE, new ArrayList<>(), out);
        BigInteger sum = BigInteger.ZERO;
        for (Object[] way : out) {
            long won = ((List<?>) way[2]).stream().filter(w -> (Integer) w == side).count();
            sum = won == k ? sum.add((BigInteger) way[1]) : sum;
        }
        fraction(sum, HUNDRED.pow(n));
        return 0;
    }

    @SuppressWarnings("unchecked")
    int hopes(int n) {
        if (n < 1 || n > 6 || plan.isEmpty()) {
            return NONE;
        }
        List<Object[]> out = new ArrayList<>();
        ways(copies(sides), 0, n, BigInteger.ONE, new ArrayList<>(), out);
        BigInteger sum = BigInteger.ZERO;
        int least = 1000;
        int most = -1;
        for (Object[] way : out) {
            int total = total((List<Side>) way[0]);
            sum = sum.add(((BigInteger) way[1]).multiply(BigInteger.valueOf(total)));
            least = Math.min(least, total);
            most = Math.max(most, total);
        }
        fraction(sum, HUNDRED.pow(n), least, most);
        return 0;
    }

    // ---- orders of play

    static final class Way {
        List<Side> at;
        List<Integer> games;
    }

    static boolean less(List<Integer> a, List<Integer> b) {
        for (int k = 0; k < a.size() && k < b.size(); k++) {
            if (!a.get(k).equals(b.get(k))) {
                return a.get(k) < b.get(k);
            }
        }
        return a.size() < b.size();
    }

    /** All STATES within so many games, each with its least shortest way; null: too many. */
    List<Way> reach(int within) {
        Map<String, Way> all = new HashMap<>();
        Way start = new Way();
        start.at = copies(sides);
        start.games = new ArrayList<>();
        all.put(key(start.at), start);
        List<Way> layer = List.of(start);
        for (int k = 0; k < within && !layer.isEmpty(); k++) {
            Map<String, Way> next = new HashMap<>();
            for (Way w : layer) {
                for (int code = 0; code < 300; code++) {
                    int one = code / 10 % 10;
                    int other = code % 10;
                    if (one >= other || !two(one, other)) {
                        continue;
                    }
                    Way then = new Way();
                    then.at = copies(w.at);
                    teach(then.at, one, other, result(then.at, one, other, code / 100), false);
                    then.games = new ArrayList<>(w.games);
                    then.games.add(code);
                    String key = key(then.at);
                    if (!all.containsKey(key) && (!next.containsKey(key) || less(then.games, next.get(key).games))) {
                        next.put(key, then);
                    }
                }
                if (all.size() + next.size() > 3000) {
                    return null;
                }
            }
            all.putAll(next);
            layer = new ArrayList<>(next.values());
        }
        return new ArrayList<>(all.values());
    }

    interface Goal {
        boolean is(List<Side> at);
    }

    int shortest(Goal goal) {
        List<Way> all = reach(5000);
        if (all == null) {
            return -3;
        }
        Way best = null;
        for (Way w : all) {
            if (goal.is(w.at) && (best == null || w.games.size() < best.games.size()
                    || w.games.size() == best.games.size() && less(w.games, best.games))) {
                best = w;
            }
        }
        if (best == null) {
            return -2;
        }
        tell(best.games.stream().limit(10).mapToLong(k -> k).toArray());
        return best.games.size();
    }

    int top(int side, int art, int v) {
        if (!there(side) || !art(art) || v < 0 || v > 7) {
            return NONE;
        }
        return shortest(at -> at.get(side).skills[art] >= v);
    }

    int quick(int v) {
        return shortest(at -> {
            for (int k = 0; k < at.size(); k++) {
                if (power(at, k) < v) {
                    return false;
                }
            }
            return true;
        });
    }

    int best(int side, int n) {
        if (!there(side) || n < 0 || n > 9) {
            return NONE;
        }
        List<Way> all = reach(n);
        if (all == null) {
            return -3;
        }
        int most = Integer.MIN_VALUE;
        int games = 0;
        for (Way w : all) {
            int power = power(w.at, side);
            if (power > most || power == most && w.games.size() < games) {
                most = power;
                games = w.games.size();
            }
        }
        tell(games);
        return most;
    }

    int even(int n) {
        if (n < 0 || n > 9 || sides.isEmpty()) {
            return NONE;
        }
        List<Way> all = reach(n);
        if (all == null) {
            return -3;
        }
        int least = Integer.MAX_VALUE;
        int games = 0;
        for (Way w : all) {
            int gap = ends(w.at)[2];
            if (gap < least || gap == least && w.games.size() < games) {
                least = gap;
                games = w.games.size();
            }
        }
        tell(games);
        return least;
    }

    int all() {
        List<Way> all = reach(5000);
        if (all == null) {
            return -3;
        }
        tell(all.stream().mapToInt(w -> total(w.at)).max().getAsInt(),
                all.stream().mapToInt(w -> total(w.at)).min().getAsInt(),
                all.stream().mapToInt(w -> w.games.size()).max().getAsInt());
        return all.size();
    }

    int next(int side) {
        if (!there(side)) {
            return NONE;
        }
        int chosen = -2;
        int most = 0;
        for (int code = 0; code < 300; code++) {
            int one = code / 10 % 10;
            int other = code % 10;
            if (one < other && two(one, other)) {
                List<Side> then = copies(sides);
                teach(then, one, other, result(then, one, other, code / 100), false);
                if (chosen == -2 || power(then, side) > most) {
                    most = power(then, side);
                    chosen = code;
                }
            }
        }
        if (chosen != -2) {
            tell(most);
        }
        return chosen;
    }

    // ---- who shows, who raises

    int seen(int one, int other, int won) {
        if (!two(one, other) || won < 0 || won > 2 || seen.size() == 12) {
            return NONE;
        }
        seen.add(new int[] {one, other, won});
        return seen.size();
    }

    int found() {
        int bits = 0;
        int[] threw = new int[8];
        for (int k = 0; k < seen.size(); k++) {
            int[] g = seen.get(k);
            if (result(sides, g[0], g[1], 0) != g[2]) {
                bits += 1 << k;
                threw[g[0]] += g[2] == 0 ? 0 : 1;
                threw[g[1]] += g[2] == 1 ? 0 : 1;
            }
        }
        int most = Arrays.stream(threw).max().getAsInt();
        int who = NONE;
        for (int k = 7; k >= 0; k--) {
            who = most > 0 && threw[k] == most ? k : who;
        }
        tell(Integer.bitCount(bits), who, most);
        return bits;
    }

    int prize() {
        if (sides.isEmpty()) {
            return -2;
        }
        int first = 0;
        int sum = 0;
        for (int k = 0; k < sides.size(); k++) {
            sum += sides.get(k).raised;
            first = sides.get(k).raised > sides.get(first).raised ? k : first;
        }
        tell(sides.get(first).raised, sum);
        return first;
    }

    List<Side> ahead(List<Side> from, int n) {
        List<Side> at = copies(from);
        for (int k = 0; k < n; k++) {
            for (int[] g : plan.get((round + k) % plan.size())) {
                teach(at, g[0], g[1], result(at, g[0], g[1], g[2]), true);
            }
        }
        return at;
    }

    int pays(int side, int n) {
        if (!there(side) || n < 0 || n > 50 || plan.isEmpty()) {
            return NONE;
        }
        List<Side> turned = copies(sides);
        turned.get(side).ill = !turned.get(side).ill;
        int a = ahead(sides, n).get(side).points;
        int b = ahead(turned, n).get(side).points;
        tell(a, b);
        return a - b;
    }

    int laws(int n) {
        if (n < 0 || n > 50 || plan.isEmpty()) {
            return NONE;
        }
        int sort = law[0];
        long[] sums = new long[4];
        for (law[0] = 0; law[0] < 4; law[0]++) {
            sums[law[0]] = total(ahead(sides, n));
        }
        law[0] = sort;
        tell(sums);
        long most = Arrays.stream(sums).max().getAsLong();
        for (int k = 0; ; k++) {
            if (sums[k] == most) {
                return k;
            }
        }
    }

    // ---- kept

    Snapshot snapshot() {
        Snapshot s = new Snapshot();
        s.sides = copies(sides);
        s.law = law.clone();
        s.round = round;
        s.r = r;
        return s;
    }

    int seed(int v) {
        int old = r;
        r = v;
        return old;
    }

    boolean keep(int i) {
        if (i != 0 && i != 1) {
            return false;
        }
        kept[i] = snapshot();
        return true;
    }

    boolean again(int i) {
        if (i != 0 && i != 1 || kept[i] == null) {
            return false;
        }
        sides = copies(kept[i].sides);
        law = kept[i].law.clone();
        round = plan.isEmpty() ? 0 : kept[i].round % plan.size();
        r = kept[i].r;
        past.clear();
        return true;
    }

    int count(int what) {
        switch (what) {
            case 0:
                return sides.size();
            case 1:
                return arts;
            case 2:
                return plan.size();
            case 3:
                return round;
            case 4:
                return past.size();
            case 5:
                return seen.size();
            case 6:
                return row.size();
            case 7:
                return text.length();
            case 8:
                return plan.stream().mapToInt(List::size).sum();
            default:
                return NONE;
        }
    }

    long row(int i) {
        if (i < 0 || i >= row.size()) {
            throw new NoSuchElementException();
        }
        return row.get(i)[0];
    }
}
