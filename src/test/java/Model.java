import java.util.ArrayDeque;
import java.util.ArrayList;
import java.util.Arrays;
import java.util.Deque;
import java.util.HashMap;
import java.util.HashSet;
import java.util.List;
import java.util.Map;
import java.util.NoSuchElementException;
import java.util.Set;
import java.util.TreeMap;
import java.util.TreeSet;

/** The document told a second time, in the plainest way and without any care for room or time. */
final class Model {
    /** All that changes by acts and days. */
    static final class World {
        int day = 0;
        Map<Integer, Integer> ink = new TreeMap<>();
        Set<Integer> stiles = new TreeSet<>();
        int[] at = new int[0];
        int[] sent = new int[0];
        int[] met = new int[0];
        int[] pace = new int[0];
        // counted from the beginning of a copy on
        int[] steps = new int[0];
        int[] come = new int[0];
        Set<Integer> meeting = new HashSet<>();

        World copy() {
            World w = new World();
            w.day = day;
            w.ink = new TreeMap<>(ink);
            w.stiles = new TreeSet<>(stiles);
            w.at = at.clone();
            w.sent = sent.clone();
            w.met = met.clone();
            w.pace = pace.clone();
            w.steps = new int[at.length];
            w.come = new int[at.length];
            return w;
        }

        boolean white(int place) {
            return ink.getOrDefault(place, -1) == 0;
        }

        List<Integer> beside(int place) {
            List<Integer> all = new ArrayList<>();
            if (stiles.contains(place - 10)) {
                all.add(place - 10);
            }
            if (place % 10 > 0) {
                all.add(place - 1);
            }
            if (ink.containsKey(place + 1)) {
                all.add(place + 1);
            }
            if (stiles.contains(place)) {
                all.add(place + 10);
            }
            return all;
        }

        /** From a place to all to which there is a way. */
        Map<Integer, Integer> fars(int from) {
            Map<Integer, Integer> far = new HashMap<>();
            Deque<Integer> queue = new ArrayDeque<>();
            far.put(from, 0);
            queue.add(from);
            while (!queue.isEmpty()) {
                int place = queue.remove();
                for (int next : beside(place)) {
                    if (white(next) && !far.containsKey(next)) {
                        far.put(next, far.get(place) + 1);
                        queue.add(next);
                    }
                }
            }
            return far;
        }

        int far(int from, int to) {
            return fars(from).getOrDefault(to, -1);
        }

        int step(int from, int to) {
            int far = far(from, to);
            if (far <= 0) {
                return -1;
            }
            int best = 1000;
            for (int next : beside(from)) {
                if (white(next) && far(next, to) == far - 1) {
                    best = Math.min(best, next);
                }
            }
            return best;
        }

        int with(int place) {
            return (int) Arrays.stream(at).filter(x -> x == place).count();
        }

        int inked() {
            return (int) ink.values().stream().filter(x -> x > 0).count();
        }

        int metByAll() {
            return Arrays.stream(met).sum();
        }
    }

    private static final int NONE = -1;
    private String tape = "";
    private int fault = NONE;
    private final int[] status = new int[3];
    private ModelText told = new ModelText("");
    private World now = new World();
    private List<World> acts = new ArrayList<>();
    private List<int[]> seen = new ArrayList<>();
    private World imageWorld = null;
    private List<World> imageActs = null;
    private List<int[]> imageSeen = null;

    private void day(World w, boolean candle) {
        for (int who = 0; who < w.at.length; who++) {
            if (w.sent[who] != NONE) {
                int made = 0;
                while (candle && w.at[who] != w.sent[who] && w.far(w.at[who], w.sent[who]) != NONE
                        && made < w.pace[who] && goes(w, who, made) > 0) {
                    w.at[who] = w.step(w.at[who], w.sent[who]);
                    made++;
                    w.steps[who]++;
                }
                if (w.at[who] == w.sent[who]) {
                    w.come[who]++;
                    w.sent[who] = NONE;
                }
            }
        }
        for (int who = 0; who < w.at.length; who++) {
            int others = w.with(w.at[who]) - 1;
            w.met[who] = Math.min(9999, w.met[who] + others);
            if (others > 0) {
                w.meeting.add(who);
            }
        }
        for (int place : w.ink.keySet()) {
            int much = w.ink.get(place);
            if (much > 0) {
                int less = fades(w, place, much);
                w.ink.put(place, much - Math.max(0, Math.min(less, much)));
            }
        }
        w.day++;
    }

    private int goes(World w, int who, int made) {
        return told.goes == null ? 1 : ModelText.evaluate(told.goes, Map.of("pace", w.pace[who], "steps", made,
                "far", w.far(w.at[who], w.sent[who]), "with", w.with(w.at[who]) - 1, "met", w.met[who], "day", w.day));
    }

    private int fades(World w, int place, int much) {
        if (told.fades == null) {
            return w.day % 5 == 4 ? 1 : 0;
        }
        return ModelText.evaluate(told.fades, Map.of("ink", much, "place", place % 10, "deed", place / 10,
                "with", w.with(place), "day", w.day));
    }

    private World after(int days) {
        World w = now.copy();
        for (int i = 0; i < days; i++) {
            day(w, true);
        }
        return w;
    }

    private void what(int what, int most) {
        if (what < 0 || what > most) {
            throw new NoSuchElementException();
        }
    }

    private void who(int person) {
        if (person < 0 || person >= now.at.length) {
            throw new NoSuchElementException();
        }
    }

    private void where(int place) {
        if (!now.ink.containsKey(place)) {
            throw new NoSuchElementException();
        }
    }

    private void deedIs(int deed) {
        if (deed < 0 || deed >= told.sizes.size()) {
            throw new NoSuchElementException();
        }
    }

    private void within(int n, int least, int most) {
        if (n < least || n > most) {
            throw new IllegalArgumentException();
        }
    }

    private int refuse(int which, int answer) {
        status[which]++;
        return answer;
    }

    private void act() {
        acts.add(now.copy());
        if (acts.size() > 40) {
            acts.remove(0);
        }
    }

    int feed(int... numbers) {
        if (tape.length() + 20 > 700) {
            return NONE;
        }
        StringBuilder more = new StringBuilder(tape);
        for (int n : numbers) {
            for (byte b : java.nio.ByteBuffer.allocate(4).putInt(n).array()) {
                more.append((char) (b & 255));
            }
        }
        tape = more.toString();
        return tape.length();
    }

    int cellar(int n) {
        if (n < 0 || n > tape.length()) {
            throw new IllegalArgumentException();
        }
        ModelText text = new ModelText(tape.substring(0, n));
        tape = "";
        fault = text.faultPlace;
        if (text.fault != 0) {
            return refuse(0, text.fault);
        }
        told = text;
        now = new World();
        now.ink.putAll(text.ink);
        now.stiles.addAll(text.stiles);
        now.at = text.people.stream().mapToInt(p -> p[0]).toArray();
        now.pace = text.people.stream().mapToInt(p -> p[1]).toArray();
        now.sent = text.people.stream().mapToInt(p -> p[2]).toArray();
        now.met = new int[now.at.length];
        acts = new ArrayList<>();
        seen = new ArrayList<>();
        imageWorld = null;
        return 0;
    }

    int fault() {
        return fault;
    }

    int count(int what) {
        what(what, 13);
        return switch (what) {
            case 0 -> told.sizes.size();
            case 1 -> now.at.length;
            case 2 -> now.day;
            case 3 -> parts();
            case 4 -> now.stiles.size();
            case 5 -> now.inked();
            case 6 -> {
                int bits = 0;
                for (int i = 0; i < now.sent.length; i++) {
                    bits += now.sent[i] == NONE ? 0 : 1 << i;
                }
                yield bits;
            }
            case 7 -> now.metByAll();
            case 8 -> acts.size();
            case 9 -> seen.size();
            case 10 -> tape.length();
            default -> status[what - 11];
        };
    }

    private int parts() {
        Set<Set<Integer>> parts = new HashSet<>();
        for (int place : now.ink.keySet()) {
            if (now.white(place)) {
                parts.add(new TreeSet<>(now.fars(place).keySet()));
            }
        }
        return parts.size();
    }

    int deed(int deed, int what) {
        deedIs(deed);
        what(what, 4);
        int sum = 0;
        for (int i = 0; i < told.sizes.get(deed); i++) {
            int place = 10 * deed + i;
            sum += switch (what) {
                case 0 -> 1;
                case 1 -> now.white(place) ? 1 << i : 0;
                case 2 -> now.stiles.contains(place) ? 1 << i : 0;
                case 3 -> now.ink.get(place);
                default -> 0;
            };
        }
        for (int i = 0; i < now.at.length && what == 4; i++) {
            sum += now.at[i] / 10 == deed ? 1 << i : 0;
        }
        return sum;
    }

    int person(int person, int what) {
        who(person);
        what(what, 5);
        return switch (what) {
            case 0 -> now.at[person];
            case 1 -> now.pace[person];
            case 2 -> now.sent[person];
            case 3 -> now.met[person];
            case 4 -> now.sent[person] == NONE ? NONE : now.far(now.at[person], now.sent[person]);
            default -> now.with(now.at[person]) - 1;
        };
    }

    int ink(int place) {
        where(place);
        return now.ink.get(place);
    }

    int days(int many) {
        if (many < 1 || many > 20 || now.day + many > 9999) {
            return refuse(1, NONE);
        }
        act();
        now = after(many);
        return now.day;
    }

    int type(int place, int ink) {
        where(place);
        if (ink < 0 || ink > 9) {
            return refuse(1, NONE);
        }
        act();
        return now.ink.put(place, ink);
    }

    boolean stile(int place, boolean is) {
        where(place);
        if (!now.ink.containsKey(place + 10) || now.stiles.contains(place) == is) {
            refuse(1, 0);
            return false;
        }
        act();
        return is ? now.stiles.add(place) : now.stiles.remove(place);
    }

    int send(int person, int place) {
        who(person);
        if (place != NONE) {
            where(place);
        }
        int was = now.sent[person];
        if (was == place) {
            return refuse(1, -2);
        }
        act();
        now.sent[person] = place;
        return was;
    }

    int let(int person, int place) {
        who(person);
        where(place);
        int was = now.at[person];
        if (was == place || !now.white(place)) {
            return refuse(1, NONE);
        }
        act();
        now.at[person] = place;
        return was;
    }

    int undo() {
        if (acts.isEmpty()) {
            return NONE;
        }
        now = acts.remove(acts.size() - 1);
        return acts.size();
    }

    int then(int person, int days, int what) {
        who(person);
        what(what, 3);
        within(days, 0, 60);
        World w = after(days);
        return switch (what) {
            case 0 -> w.at[person] / 10;
            case 1 -> w.at[person] % 10;
            case 2 -> w.met[person];
            default -> w.sent[person] == NONE ? 0 : 1;
        };
    }

    int comes(int person) {
        who(person);
        World w = now.copy();
        for (int days = 1; days <= 60 && now.sent[person] != NONE; days++) {
            day(w, true);
            if (w.sent[person] == NONE) {
                return days;
            }
        }
        return NONE;
    }

    int meet(int person, int other) {
        who(person);
        who(other);
        World w = now.copy();
        for (int days = 0; days <= 60 && person != other; days++) {
            if (w.at[person] == w.at[other]) {
                return days;
            }
            day(w, true);
        }
        return NONE;
    }

    int later(int days, int what) {
        what(what, 2);
        within(days, 0, 60);
        World w = after(days);
        if (what == 2) {
            return w.inked();
        }
        int most = 0;
        int which = NONE;
        for (int place : w.ink.keySet()) {
            if (w.with(place) > most) {
                most = w.with(place);
                which = place;
            }
        }
        return what == 0 ? most : which;
    }

    int clear(int place) {
        where(place);
        World w = now.copy();
        for (int days = 0; days <= 60; days++) {
            if (w.white(place)) {
                return days;
            }
            day(w, true);
        }
        return NONE;
    }

    int way(int place, int to, int what) {
        where(place);
        where(to);
        what(what, 3);
        return switch (what) {
            case 0 -> now.far(place, to);
            case 1 -> now.step(place, to);
            case 2 -> toClear(place, to);
            default -> needed(place, to);
        };
    }

    /** By costs that are mended until none becomes less. */
    private int toClear(int place, int to) {
        Map<Integer, Integer> cost = new HashMap<>();
        cost.put(place, 0);
        for (int round = 0; round < 50; round++) {
            for (int from : now.ink.keySet()) {
                for (int next : now.beside(from)) {
                    if (cost.containsKey(from)) {
                        cost.merge(next, cost.get(from) + (now.white(next) ? 0 : 1), Math::min);
                    }
                }
            }
        }
        return cost.getOrDefault(to, NONE);
    }

    private int needed(int place, int to) {
        int many = 0;
        for (int other : now.ink.keySet()) {
            if (other != place && other != to && now.white(other) && now.far(place, to) != NONE) {
                World w = now.copy();
                w.ink.put(other, 1);
                many += w.far(place, to) == NONE ? 1 : 0;
            }
        }
        return many;
    }

    int reached(int place, int deed) {
        where(place);
        deedIs(deed);
        return now.fars(place).keySet().stream().filter(x -> x / 10 == deed).mapToInt(x -> 1 << x % 10).sum();
    }

    int farthest(int place, int what) {
        where(place);
        what(what, 1);
        int far = 0;
        int which = NONE;
        for (Map.Entry<Integer, Integer> e : new TreeMap<>(now.fars(place)).entrySet()) {
            if (which == NONE || e.getValue() > far) {
                which = e.getKey();
                far = e.getValue();
            }
        }
        return what == 0 ? which : far;
    }

    int gather(int what) {
        what(what, 1);
        int best = Integer.MIN_VALUE;
        int which = NONE;
        int far = NONE;
        for (int place : now.ink.keySet()) {
            int many = 0;
            int sum = 0;
            for (int at : now.at) {
                int f = now.far(at, place);
                many += f == NONE ? 0 : 1;
                sum += f == NONE ? 0 : f;
            }
            if (now.at.length > 0 && 100000 * many - sum > best) {
                best = 100000 * many - sum;
                which = place;
                far = sum;
            }
        }
        return what == 0 ? which : far;
    }

    private int bestMany;
    private int bestFar;
    private int[] bestRow;

    /** All rows in their order; the first of the best ones is kept. */
    private void tryErrands(int[] row, int[][] fars, int who, int many, int far) {
        if (who == row.length) {
            if (many > bestMany || many == bestMany && far < bestFar) {
                bestMany = many;
                bestFar = far;
                bestRow = row.clone();
            }
            return;
        }
        for (int whose = 0; whose < row.length; whose++) {
            int w = whose;
            boolean taken = Arrays.stream(row, 0, who).anyMatch(x -> x == w);
            if (!taken && fars[who][whose] != NONE) {
                row[who] = whose;
                tryErrands(row, fars, who + 1, many + 1, far + fars[who][whose]);
            }
        }
        row[who] = NONE;
        tryErrands(row, fars, who + 1, many, far);
    }

    private void allErrands() {
        int n = now.at.length;
        int[][] fars = new int[n][n];
        for (int i = 0; i < n; i++) {
            for (int j = 0; j < n; j++) {
                fars[i][j] = now.sent[j] == NONE ? NONE : now.far(now.at[i], now.sent[j]);
            }
        }
        bestMany = -1;
        tryErrands(new int[n], fars, 0, 0, 0);
    }

    int errands(int what) {
        what(what, 1);
        allErrands();
        return what == 0 ? bestMany : bestFar;
    }

    int errand(int person) {
        who(person);
        allErrands();
        return bestRow[person];
    }

    int see(int person, int deed, int days) {
        who(person);
        deedIs(deed);
        if (seen.size() == 8 || days < 0 || days > 20) {
            return refuse(2, NONE);
        }
        seen.add(new int[] {person, deed, days});
        return seen.size();
    }

    void forget() {
        seen.clear();
    }

    private boolean fits(World from) {
        World w = from.copy();
        for (int day = 0; day <= 20; day++) {
            for (int[] s : seen) {
                if (s[2] == day && w.at[s[0]] / 10 != s[1]) {
                    return false;
                }
            }
            day(w, true);
        }
        return true;
    }

    /** By 10 by who, and pace. */
    private Map<Integer, World> quicks() {
        Map<Integer, World> all = new TreeMap<>();
        for (int who = 0; who < now.at.length; who++) {
            for (int pace = 0; pace <= 9; pace++) {
                World w = now.copy();
                w.pace[who] = pace;
                if (pace != now.pace[who] && fits(w)) {
                    all.put(10 * who + pace, w);
                }
            }
        }
        return all;
    }

    int quick(int what) {
        what(what, 2);
        if (what == 2) {
            return fits(now) ? 1 : 0;
        }
        Map<Integer, World> all = quicks();
        return what == 0 ? all.size() : all.isEmpty() ? NONE : all.keySet().iterator().next();
    }

    int look(int what) {
        what(what, 1);
        List<Set<Integer>> places = new ArrayList<>();
        for (int i = 0; i < now.at.length; i++) {
            places.add(new HashSet<>());
        }
        for (World w : quicks().values()) {
            for (int day = 0; day < 4; day++) {
                day(w, true);
            }
            for (int i = 0; i < w.at.length; i++) {
                places.get(i).add(w.at[i]);
            }
        }
        int most = 0;
        int which = NONE;
        for (int i = 0; i < places.size(); i++) {
            if (places.get(i).size() > most) {
                most = places.get(i).size();
                which = i;
            }
        }
        return what == 0 ? which : most;
    }

    private int likely(World w, int person, int days, int tenths) {
        if (days == 0) {
            return w.sent[person] == NONE ? 1 : 0;
        }
        World dark = w.copy();
        day(dark, false);
        World lit = w.copy();
        day(lit, true);
        return tenths * likely(dark, person, days - 1, tenths) + (10 - tenths) * likely(lit, person, days - 1, tenths);
    }

    int candles(int person, int days, int tenths) {
        who(person);
        within(days, 1, 5);
        within(tenths, 0, 10);
        return likely(now, person, days, tenths);
    }

    private int[] gain(int person, int other, int a, int b) {
        World w = now.copy();
        w.sent[person] = a == 1 ? NONE : w.sent[person];
        w.sent[other] = b == 1 ? NONE : w.sent[other];
        for (int i = 0; i < 6; i++) {
            day(w, true);
        }
        return new int[] {2 * (w.met[person] - now.met[person]) + 5 * w.come[person],
            2 * (w.met[other] - now.met[other]) + 5 * w.come[other]};
    }

    int game(int person, int other, int what) {
        who(person);
        who(other);
        what(what, 1);
        if (person == other) {
            throw new IllegalArgumentException();
        }
        if (now.sent[person] == NONE || now.sent[other] == NONE) {
            return NONE;
        }
        List<Integer> rest = new ArrayList<>();
        for (int a = 0; a <= 1; a++) {
            for (int b = 0; b <= 1; b++) {
                int[] here = gain(person, other, a, b);
                if (gain(person, other, 1 - a, b)[0] <= here[0] && gain(person, other, a, 1 - b)[1] <= here[1]) {
                    rest.add(10 * a + b);
                }
            }
        }
        return what == 0 ? rest.size() : rest.isEmpty() ? NONE : rest.get(0);
    }

    private int seed;

    private int draw(int n) {
        seed = seed * 1103515245 + 12345;
        return (seed >> 16 & 32767) % n;
    }

    private int drawPlace() {
        int deed = draw(told.sizes.size());
        return 10 * deed + draw(told.sizes.get(deed));
    }

    int years(int first, int n, int what) {
        what(what, 2);
        within(n, 0, 60);
        World w = now.copy();
        seed = first;
        for (int i = 0; i < n; i++) {
            int kind = draw(5);
            if (kind == 0 && w.at.length > 0) {
                int who = draw(w.at.length);
                w.sent[who] = drawPlace();
            }
            if (kind == 1 && !told.sizes.isEmpty()) {
                int place = drawPlace();
                w.ink.put(place, draw(4));
            }
            day(w, true);
        }
        return what == 0 ? Arrays.stream(w.come).sum() : what == 1 ? w.metByAll() - now.metByAll() : w.inked();
    }

    int ahead(int days, int what) {
        what(what, 1);
        within(days, 0, 60);
        World w = after(days);
        int bits = 0;
        for (int i = 0; i < w.at.length; i++) {
            bits += w.meeting.contains(i) ? 0 : 1 << i;
        }
        int thickest = NONE;
        for (int place : w.ink.keySet()) {
            if (w.ink.get(place) > (thickest == NONE ? 0 : w.ink.get(thickest))) {
                thickest = place;
            }
        }
        return what == 0 ? bits : thickest;
    }

    int ways(int place, int to) {
        where(place);
        where(to);
        return countWays(place, to, new HashMap<>());
    }

    private int countWays(int place, int to, Map<Integer, Integer> known) {
        int far = now.far(place, to);
        if (far <= 0) {
            return far + 1;
        }
        if (!known.containsKey(place)) {
            int sum = 0;
            for (int next : now.beside(place)) {
                if (now.white(next) && now.far(next, to) == far - 1) {
                    sum += countWays(next, to, known);
                }
            }
            known.put(place, sum);
        }
        return known.get(place);
    }

    int near(int person) {
        who(person);
        int least = 1000;
        int which = NONE;
        for (int i = 0; i < now.at.length; i++) {
            int far = now.far(now.at[person], now.at[i]);
            if (i != person && far != NONE && far < least) {
                least = far;
                which = i;
            }
        }
        return which;
    }

    int gone(int person, int days) {
        who(person);
        within(days, 0, 60);
        return after(days).steps[person];
    }

    private static List<World> copies(List<World> all) {
        List<World> copies = new ArrayList<>();
        for (World w : all) {
            copies.add(w.copy());
        }
        return copies;
    }

    void image() {
        imageWorld = now.copy();
        imageActs = copies(acts);
        imageSeen = new ArrayList<>(seen);
    }

    boolean restore() {
        if (imageWorld == null) {
            return false;
        }
        now = imageWorld.copy();
        acts = copies(imageActs);
        seen = new ArrayList<>(imageSeen);
        return true;
    }
}
