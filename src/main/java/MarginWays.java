import java.util.NoSuchElementException;

/**
 * Deeds laid side by side with ways down their margins, and the people who walk there.
 *
 * <p>Outside, a place is 10 by its deed, and its place; inside it is 8 by its deed, and its place,
 * so that all places are the bits of one long and the lowest bit is the least deed, then the least
 * place: the order in which the document decides between like ones.
 */
public final class MarginWays {
    public static final int NONE = -1;

    private static final int SENT_SO_ALREADY = -2;
    private static final int MOST_BYTES = 700;
    private static final int MOST_DEEDS = 6;
    private static final int MOST_PLACES = 8;
    private static final int ALL_PLACES = 48;
    private static final int MOST_PEOPLE = 6;
    private static final int MOST_INK = 9;
    private static final int MOST_PACE = 9;
    private static final int MOST_MET = 9999;
    private static final int MOST_DAY = 9999;
    private static final int MOST_ACT_DAYS = 20;
    private static final int MOST_DAYS_AHEAD = 60;
    private static final int MOST_ACTS = 40;
    private static final int MOST_SEEN = 8;
    private static final int MOST_SEEN_DAYS = 20;
    private static final int LOOK_DAYS = 4;
    private static final int GAME_DAYS = 6;
    private static final int TEXTS = 0;
    private static final int ACTS = 1;
    private static final int SEEN = 2;

    private final int[] tape = new int[MOST_BYTES];
    private int tapeLength = 0;
    private int faultPlace = NONE;
    private final int[] refused = new int[3];

    private Cellar cellar = new Cellar();
    private Cellar draft = new Cellar();
    private final Reader reader = new Reader(draft);
    private final State now = new State();
    private final Acts acts = new Acts();
    private final Sightings seen = new Sightings();

    private boolean imageKept = false;
    private final State imageState = new State();
    private final Acts imageActs = new Acts();
    private final Sightings imageSeen = new Sightings();

    private final Course course = new Course(cellar);
    private final Ground ground = new Ground();
    private final Errands table = new Errands();
    private final Dice dice = new Dice();
    private final long[] lookedFor = new long[MOST_PEOPLE];
    private final int[][] gains = new int[2][4];

    public MarginWays() {
    }

    // ---- the tape and the text

    public int feed(int a, int b, int c, int d, int e) {
        if (tapeLength + 20 > MOST_BYTES) {
            return NONE;
        }
        putBytes(a);
        putBytes(b);
        putBytes(c);
        putBytes(d);
        putBytes(e);
        return tapeLength;
    }

    private void putBytes(int four) {
        for (int shift = 24; shift >= 0; shift -= 8) {
            if (tapeLength < MOST_BYTES) {
                tape[tapeLength] = (four >>> shift) & 255;
                tapeLength++;
            }
        }
    }

    public int cellar(int n) throws IllegalArgumentException {
        if (n < 0 || n > tapeLength) {
            throw new IllegalArgumentException("the tape has not so many bytes");
        }
        int fault = reader.read(tape, n, draft);
        tapeLength = 0;
        faultPlace = reader.faultPlace;
        if (fault != 0) {
            refused[TEXTS]++;
            return fault;
        }
        Cellar old = cellar;
        cellar = draft;
        draft = old;
        now.copyFrom(cellar.start);
        acts.drop();
        seen.drop();
        imageKept = false;
        return 0;
    }

    public int fault() {
        return faultPlace;
    }

    // ---- what is so now

    public int count(int what) throws NoSuchElementException {
        needWhat(what, 14);
        switch (what) {
            case 0:
                return cellar.deeds;
            case 1:
                return cellar.people;
            case 2:
                return now.day;
            case 3:
                return here().parts();
            case 4:
                return Long.bitCount(now.stiles);
            case 5:
                return inked(now);
            case 6:
                return now.sentBits();
            case 7:
                return now.metByAll();
            case 8:
                return acts.kept;
            case 9:
                return seen.kept;
            case 10:
                return tapeLength;
            default:
                return refused[what - 11];
        }
    }

    public int deed(int deed, int what) throws NoSuchElementException {
        needDeed(deed);
        needWhat(what, 5);
        switch (what) {
            case 0:
                return cellar.sizes[deed];
            case 1:
                return bitsOfDeed(now.white, deed);
            case 2:
                return bitsOfDeed(now.stiles, deed);
            case 3:
                return inkOfDeed(deed);
            default:
                return peopleOfDeed(deed);
        }
    }

    private static int bitsOfDeed(long set, int deed) {
        return (int) (set >>> (MOST_PLACES * deed)) & 255;
    }

    private int inkOfDeed(int deed) {
        int sum = 0;
        for (int place = 0; place < cellar.sizes[deed]; place++) {
            sum += now.ink[MOST_PLACES * deed + place];
        }
        return sum;
    }

    private int peopleOfDeed(int deed) {
        int bits = 0;
        for (int who = 0; who < cellar.people; who++) {
            if (now.at[who] / MOST_PLACES == deed) {
                bits |= 1 << who;
            }
        }
        return bits;
    }

    public int person(int person, int what) throws NoSuchElementException {
        needPerson(person);
        needWhat(what, 6);
        switch (what) {
            case 0:
                return outside(now.at[person]);
            case 1:
                return cellar.pace[person];
            case 2:
                return outside(now.sent[person]);
            case 3:
                return now.met[person];
            case 4:
                return now.sent[person] == NONE ? NONE : here().far(now.at[person], now.sent[person]);
            default:
                return now.others(person);
        }
    }

    public int ink(int place) throws NoSuchElementException {
        return now.ink[inside(place)];
    }

    // ---- acts

    public int days(int many) {
        if (many < 1 || many > MOST_ACT_DAYS || now.day + many > MOST_DAY) {
            refused[ACTS]++;
            return NONE;
        }
        acts.keep(now);
        runAhead(many);
        now.copyFrom(course.state);
        return now.day;
    }

    public int type(int place, int ink) throws NoSuchElementException {
        int inside = inside(place);
        if (ink < 0 || ink > MOST_INK) {
            refused[ACTS]++;
            return NONE;
        }
        int was = now.ink[inside];
        acts.keep(now);
        now.setInk(inside, ink);
        return was;
    }

    public boolean stile(int place, boolean is) throws NoSuchElementException {
        int inside = inside(place);
        boolean isNow = (now.stiles & bit(inside)) != 0;
        if (isNow == is || !cellar.has(inside + MOST_PLACES)) {
            refused[ACTS]++;
            return false;
        }
        acts.keep(now);
        now.stiles ^= bit(inside);
        return true;
    }

    public int send(int person, int place) throws NoSuchElementException {
        needPerson(person);
        int inside = place == NONE ? NONE : inside(place);
        int was = now.sent[person];
        if (was == inside) {
            refused[ACTS]++;
            return SENT_SO_ALREADY;
        }
        acts.keep(now);
        now.sent[person] = inside;
        return outside(was);
    }

    public int let(int person, int place) throws NoSuchElementException {
        needPerson(person);
        int inside = inside(place);
        int was = now.at[person];
        if (was == inside || now.ink[inside] != 0) {
            refused[ACTS]++;
            return NONE;
        }
        acts.keep(now);
        now.at[person] = inside;
        return outside(was);
    }

    public int undo() {
        return acts.takeBack(now) ? acts.kept : NONE;
    }

    // ---- what comes, if only days go by

    public int then(int person, int days, int what) throws NoSuchElementException, IllegalArgumentException {
        needPerson(person);
        needWhat(what, 4);
        needWithin(days, 0, MOST_DAYS_AHEAD);
        runAhead(days);
        int at = course.state.at[person];
        switch (what) {
            case 0:
                return at / MOST_PLACES;
            case 1:
                return at % MOST_PLACES;
            case 2:
                return course.state.met[person];
            default:
                return course.state.sent[person] == NONE ? 0 : 1;
        }
    }

    public int comes(int person) throws NoSuchElementException {
        needPerson(person);
        course.begin(cellar, now);
        for (int day = 1; day <= MOST_DAYS_AHEAD; day++) {
            course.pass(true);
            if (course.comings[person] > 0) {
                return day;
            }
        }
        return NONE;
    }

    public int meet(int person, int other) throws NoSuchElementException {
        needPerson(person);
        needPerson(other);
        if (person == other) {
            return NONE;
        }
        course.begin(cellar, now);
        for (int day = 0; day <= MOST_DAYS_AHEAD; day++) {
            if (course.state.at[person] == course.state.at[other]) {
                return day;
            }
            course.pass(true);
        }
        return NONE;
    }

    public int later(int days, int what) throws NoSuchElementException, IllegalArgumentException {
        needWhat(what, 3);
        needWithin(days, 0, MOST_DAYS_AHEAD);
        runAhead(days);
        if (what == 2) {
            return inked(course.state);
        }
        int place = course.state.crowdedPlace();
        return what == 0 ? course.state.crowd(place) : outside(place);
    }

    public int clear(int place) throws NoSuchElementException {
        int inside = inside(place);
        course.begin(cellar, now);
        for (int day = 0; day <= MOST_DAYS_AHEAD; day++) {
            if (course.state.ink[inside] == 0) {
                return day;
            }
            course.pass(true);
        }
        return NONE;
    }

    public int ahead(int days, int what) throws NoSuchElementException, IllegalArgumentException {
        needWhat(what, 2);
        needWithin(days, 0, MOST_DAYS_AHEAD);
        runAhead(days);
        if (what == 0) {
            return ((1 << cellar.people) - 1) & ~course.company;
        }
        return outside(course.state.thickestPlace());
    }

    public int gone(int person, int days) throws NoSuchElementException, IllegalArgumentException {
        needPerson(person);
        needWithin(days, 0, MOST_DAYS_AHEAD);
        runAhead(days);
        return course.steps[person];
    }

    // ---- ways as they are now

    public int way(int place, int to, int what) throws NoSuchElementException {
        int from = inside(place);
        int goal = inside(to);
        needWhat(what, 4);
        switch (what) {
            case 0:
                return here().far(from, goal);
            case 1:
                int far = here().far(from, goal);
                return far > 0 ? outside(ground.stepOf(from, far)) : NONE;
            case 2:
                return here().fewestToClear(from, goal);
            default:
                return here().needed(from, goal);
        }
    }

    public int reached(int place, int deed) throws NoSuchElementException {
        int from = inside(place);
        needDeed(deed);
        here();
        return bitsOfDeed(ground.flood(bit(from), ground.white), deed);
    }

    public int farthest(int place, int what) throws NoSuchElementException {
        int from = inside(place);
        needWhat(what, 2);
        int last = here().spread(from);
        return what == 0 ? outside(lowest(ground.layer[last])) : last;
    }

    public int ways(int place, int to) throws NoSuchElementException {
        int from = inside(place);
        int goal = inside(to);
        return here().shortestWays(from, goal);
    }

    public int near(int person) throws NoSuchElementException {
        needPerson(person);
        here();
        int nearest = NONE;
        int least = ALL_PLACES;
        for (int who = 0; who < cellar.people; who++) {
            int far = who == person ? NONE : ground.far(now.at[person], now.at[who]);
            if (far != NONE && far < least) {
                least = far;
                nearest = who;
            }
        }
        return nearest;
    }

    // ---- where all should meet, who should go where

    public int gather(int what) throws NoSuchElementException {
        needWhat(what, 2);
        if (cellar.people == 0) {
            return NONE;
        }
        here();
        int best = NONE;
        int most = 0;
        int least = 0;
        for (int place = 0; place < ALL_PLACES; place++) {
            int many = cellar.has(place) ? comers(place) : 0;
            int far = many > 0 ? farForAll(place) : 0;
            if (many > most || (many > 0 && many == most && far < least)) {
                best = place;
                most = many;
                least = far;
            }
        }
        return what == 0 ? outside(best) : least;
    }

    private int comers(int place) {
        int many = 0;
        for (int who = 0; who < cellar.people; who++) {
            if (ground.far(now.at[who], place) != NONE) {
                many++;
            }
        }
        return many;
    }

    private int farForAll(int place) {
        int sum = 0;
        for (int who = 0; who < cellar.people; who++) {
            int far = ground.far(now.at[who], place);
            sum += far == NONE ? 0 : far;
        }
        return sum;
    }

    public int errands(int what) throws NoSuchElementException {
        needWhat(what, 2);
        table.weigh(here(), now, cellar.people);
        return what == 0 ? table.many() : table.farInAll();
    }

    public int errand(int person) throws NoSuchElementException {
        needPerson(person);
        table.weigh(here(), now, cellar.people);
        return table.takenBy(person);
    }

    // ---- what was seen

    public int see(int person, int deed, int days) throws NoSuchElementException {
        needPerson(person);
        needDeed(deed);
        if (seen.kept >= MOST_SEEN || days < 0 || days > MOST_SEEN_DAYS) {
            refused[SEEN]++;
            return NONE;
        }
        seen.keep(person, deed, days);
        return seen.kept;
    }

    public void forget() {
        seen.drop();
    }

    public int quick(int what) throws NoSuchElementException {
        needWhat(what, 3);
        if (what == 2) {
            return isSeenWith(NONE, 0) ? 1 : 0;
        }
        int many = 0;
        int first = NONE;
        for (int who = 0; who < cellar.people; who++) {
            for (int pace = 0; pace <= MOST_PACE; pace++) {
                if (pace != cellar.pace[who] && isSeenWith(who, pace)) {
                    first = many == 0 ? 10 * who + pace : first;
                    many++;
                }
            }
        }
        return what == 0 ? many : first;
    }

    /** Whether all that is seen would be so, if one had another pace (who NONE: as it is). */
    private boolean isSeenWith(int who, int pace) {
        beginWith(who, pace);
        int last = seen.lastDay();
        for (int day = 0; day <= last; day++) {
            if (!seen.agreesOn(day, course.state)) {
                return false;
            }
            course.pass(true);
        }
        return true;
    }

    private void beginWith(int who, int pace) {
        course.begin(cellar, now);
        if (who >= 0 && who < MOST_PEOPLE) {
            course.pace[who] = pace;
        }
    }

    public int look(int what) throws NoSuchElementException {
        needWhat(what, 2);
        for (int who = 0; who < MOST_PEOPLE; who++) {
            lookedFor[who] = 0;
        }
        for (int who = 0; who < cellar.people; who++) {
            for (int pace = 0; pace <= MOST_PACE; pace++) {
                if (pace != cellar.pace[who] && isSeenWith(who, pace)) {
                    addPlacesWith(who, pace);
                }
            }
        }
        return mostLookedFor(what);
    }

    private int mostLookedFor(int what) {
        int best = NONE;
        int most = 0;
        for (int who = 0; who < cellar.people; who++) {
            int many = Long.bitCount(lookedFor[who]);
            if (many > most) {
                most = many;
                best = who;
            }
        }
        return what == 0 ? best : most;
    }

    private void addPlacesWith(int who, int pace) {
        beginWith(who, pace);
        for (int day = 0; day < LOOK_DAYS; day++) {
            course.pass(true);
        }
        for (int other = 0; other < cellar.people; other++) {
            lookedFor[other] |= bit(course.state.at[other]);
        }
    }

    // ---- candles, a game, years

    public int candles(int person, int days, int tenths) throws NoSuchElementException, IllegalArgumentException {
        needPerson(person);
        needWithin(days, 1, 5);
        needWithin(tenths, 0, 10);
        int sum = 0;
        for (int lights = 0; lights < 1 << days; lights++) {
            int weight = weightOf(lights, days, tenths);
            if (weight > 0 && hasComeBy(person, lights, days)) {
                sum += weight;
            }
        }
        return sum;
    }

    private static int weightOf(int lights, int days, int tenths) {
        int weight = 1;
        for (int day = 0; day < days; day++) {
            weight *= isLit(lights, day) ? 10 - tenths : tenths;
        }
        return weight;
    }

    private boolean hasComeBy(int person, int lights, int days) {
        course.begin(cellar, now);
        for (int day = 0; day < days; day++) {
            course.pass(isLit(lights, day));
        }
        return course.state.sent[person] == NONE;
    }

    private static boolean isLit(int lights, int day) {
        return (lights >>> day & 1) != 0;
    }

    public int game(int person, int other, int what) throws NoSuchElementException, IllegalArgumentException {
        needPerson(person);
        needPerson(other);
        needWhat(what, 2);
        if (person == other) {
            throw new IllegalArgumentException("both are one");
        }
        if (now.sent[person] == NONE || now.sent[other] == NONE) {
            return NONE;
        }
        for (int couple = 0; couple < 4; couple++) {
            play(person, other, couple);
        }
        int many = 0;
        int first = NONE;
        for (int couple = 0; couple < 4; couple++) {
            if (rests(couple)) {
                first = many == 0 ? couple / 2 * 10 + couple % 2 : first;
                many++;
            }
        }
        return what == 0 ? many : first;
    }

    /** A couple of choices is 2 by the first one's, and the other one's. */
    private void play(int person, int other, int couple) {
        course.begin(cellar, now);
        if (couple / 2 == 1) {
            course.state.sent[person] = NONE;
        }
        if (couple % 2 == 1) {
            course.state.sent[other] = NONE;
        }
        for (int day = 0; day < GAME_DAYS; day++) {
            course.pass(true);
        }
        gains[0][couple] = gainOf(person);
        gains[1][couple] = gainOf(other);
    }

    private int gainOf(int who) {
        int met = course.state.met[who] - now.met[who];
        return 2 * met + (course.comings[who] > 0 ? 5 : 0);
    }

    private boolean rests(int couple) {
        return gains[0][couple] >= gains[0][couple ^ 2] && gains[1][couple] >= gains[1][couple ^ 1];
    }

    public int years(int seed, int n, int what) throws NoSuchElementException, IllegalArgumentException {
        needWhat(what, 3);
        needWithin(n, 0, MOST_DAYS_AHEAD);
        course.begin(cellar, now);
        dice.seed = seed;
        for (int day = 0; day < n; day++) {
            drawWhatHappens();
            course.pass(true);
        }
        switch (what) {
            case 0:
                return course.comingsOfAll();
            case 1:
                return course.state.metByAll() - now.metByAll();
            default:
                return inked(course.state);
        }
    }

    private void drawWhatHappens() {
        int kind = dice.draw(5);
        if (kind == 0 && cellar.people > 0) {
            int who = dice.draw(cellar.people);
            course.state.sent[who] = drawPlace();
        } else if (kind == 1 && cellar.deeds > 0) {
            int place = drawPlace();
            course.state.setInk(place, dice.draw(4));
        }
    }

    private int drawPlace() {
        int deed = dice.draw(cellar.deeds);
        return MOST_PLACES * deed + dice.draw(cellar.sizes[deed]);
    }

    // ---- the image

    public void image() {
        imageState.copyFrom(now);
        imageActs.copyFrom(acts);
        imageSeen.copyFrom(seen);
        imageKept = true;
    }

    public boolean restore() {
        if (!imageKept) {
            return false;
        }
        now.copyFrom(imageState);
        acts.copyFrom(imageActs);
        seen.copyFrom(imageSeen);
        return true;
    }

    // ---- what all of these need

    private void needWhat(int what, int many) {
        if (what < 0 || what >= many) {
            throw new NoSuchElementException("no such what");
        }
    }

    private void needPerson(int person) {
        if (person < 0 || person >= cellar.people) {
            throw new NoSuchElementException("no such person");
        }
    }

    private void needDeed(int deed) {
        if (deed < 0 || deed >= cellar.deeds) {
            throw new NoSuchElementException("no such deed");
        }
    }

    private void needWithin(int number, int least, int most) {
        if (number < least || number > most) {
            throw new IllegalArgumentException("not within what is told");
        }
    }

    private int inside(int place) {
        if (place < 0 || place / 10 >= cellar.deeds || place % 10 >= cellar.sizes[place / 10]) {
            throw new NoSuchElementException("no such place");
        }
        return place / 10 * MOST_PLACES + place % 10;
    }

    private static int outside(int inside) {
        return inside < 0 ? NONE : inside / MOST_PLACES * 10 + inside % MOST_PLACES;
    }

    private static long bit(int inside) {
        return 1L << inside;
    }

    private static int lowest(long set) {
        return set == 0 ? NONE : Long.bitCount((set & -set) - 1);
    }

    private int inked(State state) {
        return Long.bitCount(cellar.places & ~state.white);
    }

    private Ground here() {
        ground.lay(cellar, now);
        return ground;
    }

    private void runAhead(int many) {
        course.begin(cellar, now);
        for (int day = 0; day < many; day++) {
            course.pass(true);
        }
    }

    /** All that acts and days change. */
    private static final class State {
        int day = 0;
        long white = 0;
        /** The place of the first deed of both. */
        long stiles = 0;
        final int[] ink = new int[ALL_PLACES];
        final int[] at = new int[MOST_PEOPLE];
        final int[] sent = new int[MOST_PEOPLE];
        final int[] met = new int[MOST_PEOPLE];

        State() {
            empty();
        }

        void empty() {
            day = 0;
            white = 0;
            stiles = 0;
            for (int place = 0; place < ALL_PLACES; place++) {
                ink[place] = 0;
            }
            for (int who = 0; who < MOST_PEOPLE; who++) {
                at[who] = NONE;
                sent[who] = NONE;
                met[who] = 0;
            }
        }

        void copyFrom(State other) {
            day = other.day;
            white = other.white;
            stiles = other.stiles;
            System.arraycopy(other.ink, 0, ink, 0, ALL_PLACES);
            System.arraycopy(other.at, 0, at, 0, MOST_PEOPLE);
            System.arraycopy(other.sent, 0, sent, 0, MOST_PEOPLE);
            System.arraycopy(other.met, 0, met, 0, MOST_PEOPLE);
        }

        void setInk(int place, int much) {
            ink[place] = much;
            white = much == 0 ? white | bit(place) : white & ~bit(place);
        }

        /** Nobody is at NONE but those who are not there at all, so NONE is asked for by itself. */
        int crowd(int place) {
            int many = 0;
            for (int who = 0; who < MOST_PEOPLE; who++) {
                if (place != NONE && at[who] == place) {
                    many++;
                }
            }
            return many;
        }

        int others(int who) {
            return crowd(at[who]) - 1;
        }

        int crowdedPlace() {
            int best = NONE;
            int most = 0;
            for (int who = 0; who < MOST_PEOPLE; who++) {
                int many = crowd(at[who]);
                if (many > most || (many > 0 && many == most && at[who] < best)) {
                    most = many;
                    best = at[who];
                }
            }
            return best;
        }

        int thickestPlace() {
            int best = NONE;
            int most = 0;
            for (int place = 0; place < ALL_PLACES; place++) {
                if (ink[place] > most) {
                    most = ink[place];
                    best = place;
                }
            }
            return best;
        }

        int sentBits() {
            int bits = 0;
            for (int who = 0; who < MOST_PEOPLE; who++) {
                if (sent[who] != NONE) {
                    bits |= 1 << who;
                }
            }
            return bits;
        }

        int metByAll() {
            int sum = 0;
            for (int who = 0; who < MOST_PEOPLE; who++) {
                sum += met[who];
            }
            return sum;
        }
    }

    /** What a text tells: what never changes until the next text, and how all begins. */
    private static final class Cellar {
        int deeds = 0;
        int people = 0;
        long places = 0;
        final int[] sizes = new int[MOST_DEEDS];
        final int[] pace = new int[MOST_PEOPLE];
        final Rule goes = new Rule();
        final Rule fades = new Rule();
        final State start = new State();

        void empty() {
            deeds = 0;
            people = 0;
            places = 0;
            for (int deed = 0; deed < MOST_DEEDS; deed++) {
                sizes[deed] = 0;
            }
            goes.size = 0;
            fades.size = 0;
            start.empty();
        }

        boolean has(int inside) {
            return inside >= 0 && inside < ALL_PLACES && (places & bit(inside)) != 0;
        }

        void addPlace(int deed, int much) {
            int inside = MOST_PLACES * deed + sizes[deed];
            sizes[deed]++;
            places |= bit(inside);
            start.setInk(inside, much);
        }
    }

    /** An expression as a row: numbers as they are, values and operators below 0, operands first. */
    private static final class Rule {
        static final int NOT = -10;
        static final int OR = -11;
        static final int AND = -12;
        static final int LESS = -13;
        static final int EQUAL = -14;
        static final int PLUS = -15;
        static final int MINUS = -16;
        static final int TIMES = -17;
        static final int BY = -18;

        /** No text has more tokens than bytes. */
        final int[] row = new int[MOST_BYTES];
        int size = 0;
        /** Six expressions, one within the other, each with at most five operands that wait. */
        final int[] stack = new int[64];

        boolean isTold() {
            return size > 0;
        }

        void add(int item) {
            if (size < row.length) {
                row[size] = item;
                size++;
            }
        }

        void addValue(int which) {
            add(-1 - which);
        }

        int evaluate(int[] values) {
            int high = 0;
            for (int i = 0; i < size; i++) {
                int item = row[i];
                if (item > NOT && high < stack.length) {
                    stack[high] = item >= 0 ? item : valueOf(values, -1 - item);
                    high++;
                } else if (item == NOT && high >= 1) {
                    stack[high - 1] = stack[high - 1] == 0 ? 1 : 0;
                } else if (high >= 2) {
                    high--;
                    stack[high - 1] = joined(item, stack[high - 1], stack[high]);
                }
            }
            return high > 0 ? stack[0] : 0;
        }

        private static int valueOf(int[] values, int which) {
            return which < values.length ? values[which] : 0;
        }

        private static int joined(int operator, int a, int b) {
            switch (operator) {
                case OR:
                    return a != 0 || b != 0 ? 1 : 0;
                case AND:
                    return a != 0 && b != 0 ? 1 : 0;
                case LESS:
                    return a < b ? 1 : 0;
                case EQUAL:
                    return a == b ? 1 : 0;
                case PLUS:
                    return a + b;
                case MINUS:
                    return a - b;
                case TIMES:
                    return a * b;
                default:
                    return b == 0 ? 0 : a / b;
            }
        }
    }

    /** Reads a text into a cellar; stops at the first fault. */
    private static final class Reader {
        static final int WORD = 256;
        static final int NUMBER = 257;
        static final int NO_TOKEN = 258;
        static final int END = 259;
        static final int MOST_DIGITS = 4;
        static final int MOST_WITHIN = 6;
        static final int MOST_NOTS = 6;
        static final int CANNOT_STAND = 1;
        static final int TOO_MUCH = 2;
        static final int NOT_THERE = 3;
        static final int STILE_TWICE = 4;
        static final int RULE_TWICE = 5;
        static final String LINES = "deed stile person goes fades";
        static final String GOES_VALUES = "pace steps far with met day";
        static final String FADES_VALUES = "ink place deed with day";

        int fault = 0;
        int faultPlace = NONE;

        private int[] text = new int[0];
        private int length = 0;
        private int first = 0;
        private int behind = 0;
        /** WORD, NUMBER, NO_TOKEN, END, or the byte of a sign. */
        private int kind = END;
        private int number = 0;
        private Cellar told;
        private Rule rule;
        private String values = GOES_VALUES;

        Reader(Cellar first) {
            told = first;
            rule = first.goes;
        }

        int read(int[] bytes, int many, Cellar into) {
            text = bytes;
            length = Math.min(many, bytes.length);
            behind = 0;
            fault = 0;
            faultPlace = NONE;
            told = into;
            told.empty();
            advance();
            for (int i = 0; i < MOST_BYTES && fault == 0 && kind != END; i++) {
                readLine();
            }
            return fault;
        }

        // ---- tokens

        private void advance() {
            first = behind;
            while (first < length && isBlank(text[first])) {
                first++;
            }
            behind = first;
            if (first >= length) {
                kind = END;
            } else if (isLetter(text[first])) {
                readWord();
            } else if (isDigit(text[first])) {
                readNumber();
            } else {
                kind = isSign(text[first]) ? text[first] : NO_TOKEN;
                behind = first + 1;
            }
        }

        private void readWord() {
            kind = WORD;
            while (behind < length && isLetter(text[behind])) {
                behind++;
            }
        }

        private void readNumber() {
            kind = NUMBER;
            number = 0;
            while (behind < length && isDigit(text[behind])) {
                // what is longer is a fault anyway, and must not wrap
                number = behind - first < MOST_DIGITS ? 10 * number + text[behind] - '0' : number;
                behind++;
            }
        }

        private static boolean isBlank(int sign) {
            return sign == 32 || sign == 10;
        }

        private static boolean isLetter(int sign) {
            return sign >= 'a' && sign <= 'z';
        }

        private static boolean isDigit(int sign) {
            return sign >= '0' && sign <= '9';
        }

        private static boolean isSign(int sign) {
            return sign > 0 && sign < 128 && ";()+-*/<=".indexOf((char) sign) >= 0;
        }

        private boolean isWord(String word) {
            return kind == WORD && isAt(word, 0, word.length());
        }

        private boolean isAt(String list, int from, int to) {
            if (to - from != behind - first) {
                return false;
            }
            for (int i = from; i < to; i++) {
                if (list.charAt(i) != text[first + i - from]) {
                    return false;
                }
            }
            return true;
        }

        /** Which of the list's words the token is. */
        private int wordOf(String list) {
            int which = 0;
            int from = 0;
            for (int i = 0; i <= list.length(); i++) {
                if (i == list.length() || list.charAt(i) == ' ') {
                    if (kind == WORD && isAt(list, from, i)) {
                        return which;
                    }
                    which++;
                    from = i + 1;
                }
            }
            return NONE;
        }

        private void refuse(int why) {
            if (fault == 0) {
                fault = why;
                faultPlace = first;
            }
        }

        private void pass(int sign) {
            if (fault != 0) {
                return;
            }
            if (kind != sign) {
                refuse(CANNOT_STAND);
            } else {
                advance();
            }
        }

        /** The number that must stand here (0 with a fault); the token is not passed yet. */
        private int numberBelow(int bound, int faultBeyond) {
            if (fault != 0) {
                return 0;
            }
            if (kind != NUMBER) {
                refuse(CANNOT_STAND);
            } else if (behind - first > MOST_DIGITS) {
                refuse(TOO_MUCH);
            } else if (number >= bound) {
                refuse(faultBeyond);
            }
            return fault == 0 ? number : 0;
        }

        // ---- lines

        private void readLine() {
            switch (wordOf(LINES)) {
                case 0:
                    readDeed();
                    break;
                case 1:
                    readStile();
                    break;
                case 2:
                    readPerson();
                    break;
                case 3:
                    readRule(told.goes, GOES_VALUES);
                    break;
                case 4:
                    readRule(told.fades, FADES_VALUES);
                    break;
                default:
                    refuse(CANNOT_STAND);
            }
            pass(';');
        }

        private void readDeed() {
            int deed = told.deeds;
            if (deed >= MOST_DEEDS) {
                refuse(TOO_MUCH);
                return;
            }
            advance();
            told.deeds++;
            for (int i = 0; i <= MOST_PLACES && fault == 0 && (i == 0 || kind == NUMBER); i++) {
                // of a place too many every number is too much
                int much = numberBelow(i < MOST_PLACES ? MOST_INK + 1 : 0, TOO_MUCH);
                if (fault == 0) {
                    told.addPlace(deed, much);
                    advance();
                }
            }
        }

        private void readStile() {
            advance();
            int deed = numberBelow(told.deeds - 1, NOT_THERE);
            if (fault != 0) {
                return;
            }
            advance();
            int place = numberBelow(Math.min(told.sizes[deed], told.sizes[deed + 1]), NOT_THERE);
            long stile = bit(MOST_PLACES * deed + place);
            if ((told.start.stiles & stile) != 0) {
                refuse(STILE_TWICE);
            }
            if (fault == 0) {
                told.start.stiles |= stile;
                advance();
            }
        }

        private void readPerson() {
            int who = told.people;
            if (who >= MOST_PEOPLE) {
                refuse(TOO_MUCH);
                return;
            }
            advance();
            told.people++;
            told.start.at[who] = readPlace();
            told.pace[who] = numberBelow(MOST_PACE + 1, TOO_MUCH);
            if (fault == 0) {
                advance();
            }
            if (fault == 0 && isWord("to")) {
                advance();
                told.start.sent[who] = readPlace();
            }
        }

        private int readPlace() {
            int deed = numberBelow(told.deeds, NOT_THERE);
            if (fault != 0) {
                return NONE;
            }
            advance();
            int place = numberBelow(told.sizes[deed], NOT_THERE);
            if (fault != 0) {
                return NONE;
            }
            advance();
            return MOST_PLACES * deed + place;
        }

        // ---- expressions

        private void readRule(Rule into, String names) {
            if (into.isTold()) {
                refuse(RULE_TWICE);
                return;
            }
            advance();
            rule = into;
            values = names;
            readExpr(0);
        }

        private void readExpr(int within) {
            if (within >= MOST_WITHIN) {
                boolean canStand = kind == NUMBER || kind == WORD || kind == '(';
                refuse(canStand ? TOO_MUCH : CANNOT_STAND);
                return;
            }
            readAnd(within);
            for (int i = 0; i < MOST_BYTES && fault == 0 && isWord("or"); i++) {
                advance();
                readAnd(within);
                rule.add(Rule.OR);
            }
        }

        private void readAnd(int within) {
            readNot(within);
            for (int i = 0; i < MOST_BYTES && fault == 0 && isWord("and"); i++) {
                advance();
                readNot(within);
                rule.add(Rule.AND);
            }
        }

        private void readNot(int within) {
            int nots = 0;
            while (nots < MOST_NOTS && isWord("not")) {
                nots++;
                advance();
            }
            if (nots == MOST_NOTS && isWord("not")) {
                refuse(TOO_MUCH);
            }
            readSum(within);
            if (fault == 0 && (kind == '<' || kind == '=')) {
                int test = kind == '<' ? Rule.LESS : Rule.EQUAL;
                advance();
                readSum(within);
                rule.add(test);
            }
            for (int i = 0; i < nots; i++) {
                rule.add(Rule.NOT);
            }
        }

        private void readSum(int within) {
            readProduct(within);
            for (int i = 0; i < MOST_BYTES && fault == 0 && (kind == '+' || kind == '-'); i++) {
                int operator = kind == '+' ? Rule.PLUS : Rule.MINUS;
                advance();
                readProduct(within);
                rule.add(operator);
            }
        }

        private void readProduct(int within) {
            readPart(within);
            for (int i = 0; i < MOST_BYTES && fault == 0 && (kind == '*' || kind == '/'); i++) {
                int operator = kind == '*' ? Rule.TIMES : Rule.BY;
                advance();
                readPart(within);
                rule.add(operator);
            }
        }

        private void readPart(int within) {
            if (fault != 0) {
                return;
            }
            if (kind == WORD) {
                readValue(wordOf(values));
            } else if (kind == '(') {
                advance();
                readExpr(within + 1);
                pass(')');
            } else {
                rule.add(numberBelow(10000, TOO_MUCH));
                if (fault == 0) {
                    advance();
                }
            }
        }

        private void readValue(int which) {
            if (which == NONE) {
                refuse(NOT_THERE);
            } else {
                rule.addValue(which);
                advance();
            }
        }
    }

    /** Where one can step, and how far it is: sets of places as bits. */
    private static final class Ground {
        static final long FIRST_PLACES = 0x010101010101L;
        static final long LAST_PLACES = 0x808080808080L;

        long places = 0;
        long white = 0;
        long stiles = 0;
        /** The places by how far it is from them, or to them; as the last call of far or spread left them. */
        final long[] layer = new long[ALL_PLACES + 1];
        final int[] paths = new int[ALL_PLACES];

        void lay(Cellar cellar, State state) {
            places = cellar.places;
            white = state.white;
            stiles = state.stiles;
        }

        /** All places, white or not, that are one step off one of these. */
        long beside(long from) {
            long below = (from << 1) & ~FIRST_PLACES;
            long above = (from >>> 1) & ~LAST_PLACES;
            long next = (from & stiles) << MOST_PLACES;
            long previous = (from >>> MOST_PLACES) & stiles;
            return (below | above | next | previous) & places;
        }

        /** From the goal back, since one may stand on ink but not step on it. */
        int far(int from, int goal) {
            long known = bit(goal);
            layer[0] = known;
            for (int far = 0; far < ALL_PLACES; far++) {
                if ((layer[far] & bit(from)) != 0) {
                    return far;
                }
                long more = beside(layer[far] & white) & ~known;
                if (more == 0) {
                    return NONE;
                }
                layer[far + 1] = more;
                known |= more;
            }
            return NONE;
        }

        /** The step that one makes from there, if far has just told that it is so far. */
        int stepOf(int from, int far) {
            if (far < 1 || far > ALL_PLACES) {
                return from;
            }
            long better = beside(bit(from)) & white & layer[far - 1];
            return better == 0 ? from : lowest(better);
        }

        /** Fills the layers by how far it is from a place to them: which layer is the last. */
        int spread(int from) {
            long known = bit(from);
            layer[0] = known;
            for (int far = 0; far < ALL_PLACES; far++) {
                long more = beside(layer[far]) & white & ~known;
                if (more == 0) {
                    return far;
                }
                layer[far + 1] = more;
                known |= more;
            }
            return ALL_PLACES;
        }

        long flood(long from, long open) {
            long all = from;
            for (int i = 0; i < ALL_PLACES; i++) {
                long more = all | (beside(all) & open);
                if (more == all) {
                    return all;
                }
                all = more;
            }
            return all;
        }

        int parts() {
            int many = 0;
            long left = white;
            for (int i = 0; i < ALL_PLACES && left != 0; i++) {
                left &= ~flood(left & -left, white);
                many++;
            }
            return many;
        }

        int fewestToClear(int from, int goal) {
            long all = flood(bit(from), white);
            for (int cost = 0; cost <= ALL_PLACES; cost++) {
                if ((all & bit(goal)) != 0) {
                    return cost;
                }
                long more = all | beside(all);
                if (more == all) {
                    return NONE;
                }
                all = flood(more, white);
            }
            return NONE;
        }

        int needed(int from, int goal) {
            if ((flood(bit(from), white) & bit(goal)) == 0) {
                return 0;
            }
            int many = 0;
            long others = white & ~bit(from) & ~bit(goal);
            for (int place = 0; place < ALL_PLACES; place++) {
                boolean asked = (others & bit(place)) != 0;
                if (asked && (flood(bit(from), white & ~bit(place)) & bit(goal)) == 0) {
                    many++;
                }
            }
            return many;
        }

        int shortestWays(int from, int goal) {
            int far = far(from, goal);
            if (far == NONE) {
                return 0;
            }
            for (int place = 0; place < ALL_PLACES; place++) {
                paths[place] = 0;
            }
            paths[from] = 1;
            for (int left = far - 1; left >= 0; left--) {
                for (int place = 0; place < ALL_PLACES; place++) {
                    if ((layer[left] & white & bit(place)) != 0) {
                        paths[place] = pathsOver(beside(bit(place)) & layer[left + 1]);
                    }
                }
            }
            return paths[goal];
        }

        private int pathsOver(long set) {
            int sum = 0;
            long left = set;
            // a place has at most four beside it
            for (int i = 0; i < 4 && left != 0; i++) {
                sum += paths[lowest(left)];
                left &= left - 1;
            }
            return sum;
        }
    }

    /** Days that go by on a state of its own, and what is counted in them. */
    private static final class Course {
        final State state = new State();
        final Ground ground = new Ground();
        final int[] pace = new int[MOST_PEOPLE];
        final int[] steps = new int[MOST_PEOPLE];
        final int[] comings = new int[MOST_PEOPLE];
        /** Who has met somebody, as bits: met itself stops at its most. */
        int company = 0;
        private final int[] values = new int[6];
        private Cellar cellar;

        Course(Cellar first) {
            cellar = first;
        }

        void begin(Cellar told, State from) {
            cellar = told;
            state.copyFrom(from);
            company = 0;
            for (int who = 0; who < MOST_PEOPLE; who++) {
                pace[who] = told.pace[who];
                steps[who] = 0;
                comings[who] = 0;
            }
        }

        /** One day; without light nobody makes a step. */
        void pass(boolean light) {
            ground.lay(cellar, state);
            for (int who = 0; who < cellar.people; who++) {
                if (light && state.sent[who] != NONE) {
                    walk(who);
                }
                if (state.sent[who] != NONE && state.sent[who] == state.at[who]) {
                    state.sent[who] = NONE;
                    comings[who]++;
                }
            }
            greet();
            fade();
            state.day++;
        }

        private void walk(int who) {
            int far = ground.far(state.at[who], state.sent[who]);
            int made = 0;
            while (made < pace[who] && far > 0 && goesOn(who, made, far)) {
                state.at[who] = ground.stepOf(state.at[who], far);
                far--;
                made++;
            }
            steps[who] += made;
        }

        private boolean goesOn(int who, int made, int far) {
            if (!cellar.goes.isTold()) {
                return true;
            }
            values[0] = pace[who];
            values[1] = made;
            values[2] = far;
            values[3] = state.others(who);
            values[4] = state.met[who];
            values[5] = state.day;
            return cellar.goes.evaluate(values) > 0;
        }

        private void greet() {
            for (int who = 0; who < cellar.people; who++) {
                int others = state.others(who);
                state.met[who] = Math.min(MOST_MET, state.met[who] + others);
                if (others > 0) {
                    company |= 1 << who;
                }
            }
        }

        private void fade() {
            for (int place = 0; place < ALL_PLACES; place++) {
                int much = state.ink[place];
                if (much > 0) {
                    int less = Math.max(0, Math.min(much, fadesBy(place)));
                    state.setInk(place, much - less);
                }
            }
        }

        private int fadesBy(int place) {
            if (!cellar.fades.isTold()) {
                return state.day % 5 == 4 ? 1 : 0;
            }
            values[0] = state.ink[place];
            values[1] = place % MOST_PLACES;
            values[2] = place / MOST_PLACES;
            values[3] = state.crowd(place);
            values[4] = state.day;
            return cellar.fades.evaluate(values);
        }

        int comingsOfAll() {
            int sum = 0;
            for (int who = 0; who < MOST_PEOPLE; who++) {
                sum += comings[who];
            }
            return sum;
        }
    }

    /** How all was ahead of each of the latest acts. */
    private static final class Acts {
        int kept = 0;
        private int oldest = 0;
        private final State[] rows = new State[MOST_ACTS];

        Acts() {
            for (int i = 0; i < MOST_ACTS; i++) {
                rows[i] = new State();
            }
        }

        void drop() {
            kept = 0;
            oldest = 0;
        }

        void keep(State state) {
            if (kept == MOST_ACTS) {
                oldest = (oldest + 1) % MOST_ACTS;
                kept--;
            }
            rows[(oldest + kept) % MOST_ACTS].copyFrom(state);
            kept++;
        }

        boolean takeBack(State into) {
            if (kept == 0) {
                return false;
            }
            kept--;
            into.copyFrom(rows[(oldest + kept) % MOST_ACTS]);
            return true;
        }

        void copyFrom(Acts other) {
            kept = other.kept;
            oldest = 0;
            for (int i = 0; i < kept; i++) {
                rows[i].copyFrom(other.rows[(other.oldest + i) % MOST_ACTS]);
            }
        }
    }

    /** Who was seen in which deed, behind how many days from now on. */
    private static final class Sightings {
        int kept = 0;
        private final int[] who = new int[MOST_SEEN];
        private final int[] deed = new int[MOST_SEEN];
        private final int[] behind = new int[MOST_SEEN];

        void drop() {
            kept = 0;
        }

        void keep(int person, int where, int days) {
            if (kept < MOST_SEEN) {
                who[kept] = person;
                deed[kept] = where;
                behind[kept] = days;
                kept++;
            }
        }

        void copyFrom(Sightings other) {
            kept = other.kept;
            System.arraycopy(other.who, 0, who, 0, MOST_SEEN);
            System.arraycopy(other.deed, 0, deed, 0, MOST_SEEN);
            System.arraycopy(other.behind, 0, behind, 0, MOST_SEEN);
        }

        /** NONE, if nothing is seen: then there is no day to look at. */
        int lastDay() {
            int last = NONE;
            for (int i = 0; i < kept; i++) {
                last = Math.max(last, behind[i]);
            }
            return last;
        }

        boolean agreesOn(int day, State state) {
            for (int i = 0; i < kept; i++) {
                if (behind[i] == day && state.at[who[i]] / MOST_PLACES != deed[i]) {
                    return false;
                }
            }
            return true;
        }
    }

    /**
     * Who goes on whose errand. One that is gone counts WORTH less how far it is, so that the greatest
     * sum is as many as can, and of these the least far (all ways together stay below WORTH).
     */
    private static final class Errands {
        static final int WORTH = 1000;

        private int people = 0;
        private final int[][] far = new int[MOST_PEOPLE][MOST_PEOPLE];
        /** By the first person who still has to choose, and the errands that are taken (bits). */
        private final int[][] best = new int[MOST_PEOPLE + 1][1 << MOST_PEOPLE];

        void weigh(Ground ground, State state, int many) {
            people = Math.min(many, MOST_PEOPLE);
            for (int who = 0; who < people; who++) {
                for (int whose = 0; whose < people; whose++) {
                    int goal = state.sent[whose];
                    far[who][whose] = goal == NONE ? NONE : ground.far(state.at[who], goal);
                }
            }
            for (int taken = 0; taken < 1 << people; taken++) {
                best[people][taken] = 0;
            }
            for (int who = people - 1; who >= 0; who--) {
                for (int taken = 0; taken < 1 << people; taken++) {
                    best[who][taken] = bestOf(who, taken);
                }
            }
        }

        private int bestOf(int who, int taken) {
            int most = best[who + 1][taken];
            for (int whose = 0; whose < people; whose++) {
                if (isFree(who, whose, taken)) {
                    most = Math.max(most, worthOf(who, whose, taken));
                }
            }
            return most;
        }

        private boolean isFree(int who, int whose, int taken) {
            return far[who][whose] != NONE && (taken >>> whose & 1) == 0;
        }

        private int worthOf(int who, int whose, int taken) {
            return WORTH - far[who][whose] + best[who + 1][taken | 1 << whose];
        }

        int many() {
            return (best[0][0] + WORTH - 1) / WORTH;
        }

        int farInAll() {
            return many() * WORTH - best[0][0];
        }

        int takenBy(int person) {
            int taken = 0;
            int chosen = NONE;
            for (int who = 0; who <= person && who < people; who++) {
                chosen = firstChoice(who, taken);
                taken |= chosen == NONE ? 0 : 1 << chosen;
            }
            return chosen;
        }

        private int firstChoice(int who, int taken) {
            for (int whose = 0; whose < people; whose++) {
                if (isFree(who, whose, taken) && worthOf(who, whose, taken) == best[who][taken]) {
                    return whose;
                }
            }
            return NONE;
        }
    }

    private static final class Dice {
        int seed = 0;

        int draw(int many) {
            seed = seed * 1103515245 + 12345;
            return many > 0 ? (seed >>> 16 & 0x7fff) % many : 0;
        }
    }
}
