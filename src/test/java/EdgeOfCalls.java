/** Promises 5 to 8, 15 to 25, 28 to 36: what the questions answer at their edges, and what they throw. */
final class EdgeOfCalls {
    private static final int NONE = MarginWays.NONE;
    private static final int LEAST = Integer.MIN_VALUE;
    private static final int MOST = Integer.MAX_VALUE;
    private static final String BASE = "deed 0 0 0 3 0;deed 0 2 0 0;deed 0 0;stile 0 2;stile 1 0;"
        + "person 0 0 2 to 1 3;person 1 0 1 to 0 4;person 1 3 3;";
    private static final int[] NO_PERSON = {-1, 3, 6, LEAST, MOST};
    private static final int[] NO_DEED = {-1, 3, 6, LEAST, MOST};
    private static final int[] NO_PLACE = {-1, -2, -10, 5, 7, 8, 9, 14, 18, 19, 22, 28, 29, 30, 60, 100, LEAST, MOST};
    private static final int[] NO_DAYS = {-1, 61, LEAST, MOST};

    /** A call with one argument that is wrong. */
    private interface With {
        long run(MarginWays x, int argument);
    }

    private final Edges edges;

    EdgeOfCalls(Edges edges) {
        this.edges = edges;
    }

    void all() {
        count();
        deed();
        person();
        ink();
        theLast();
        then();
        comesAndMeet();
        later();
        clear();
        way();
        reachedAndFarthest();
        gather();
        errands();
        quickAndLook();
        candles();
        game();
        years();
        ahead();
        waysNearGone();
        questionsChangeNothing();
    }

    /** The cellar that most calls are asked about, in which something has been done already. */
    private static MarginWays made() {
        MarginWays x = Check.told(BASE);
        x.days(1);
        x.see(0, 1, 1);
        x.image();
        return x;
    }

    private void noSuch(String call, int[] wrong, With with) {
        for (int argument : wrong) {
            edges.noSuch(call + " of " + argument, EdgeOfCalls::made, x -> with.run(x, argument));
        }
    }

    private void illegal(String call, int[] wrong, With with) {
        for (int argument : wrong) {
            edges.illegal(call + " of " + argument, EdgeOfCalls::made, x -> with.run(x, argument));
        }
    }

    /** Every what but those below a number. */
    private static int[] from(int many) {
        return new int[] {-1, many, many + 1, LEAST, MOST};
    }

    private void count() {
        edges.promise(5);
        edges.says("0 DEEDS, 1 PEOPLE, 2 the DAY, 3 PARTS, 4 STILES, 5 PLACES with INK, 6 who is SENT somewhere (bits), 7 how many all have MET, 8 ACTS that are kept, 9 SEEN, 10 bytes of the tape, 11 to 13 STATUS 0 to 2.");
        MarginWays y = Check.told(BASE);
        int[] first = {3, 3, 0, 3, 2, 2, 3, 0, 0, 0, 0, 0, 0, 0};
        for (int what = 0; what < 14; what++) {
            edges.same("count(" + what + ")", y.count(what), first[what]);
        }
        y.days(3);
        y.type(0, 1);
        y.stile(0, true);
        y.see(0, 0, 0);
        y.see(0, 0, 99);
        y.days(0);
        y.days(21);
        Check.cellar(y, "x");
        Check.cellar(y, "x");
        Check.cellar(y, "x");
        y.feed(0, 0, 0, 0, 0);
        // 0 has come behind 2 days: two are together on two days
        int[] due = {3, 3, 3, 3, 3, 3, 2, 4, 3, 1, 20, 3, 2, 1};
        for (int what = 0; what < 14; what++) {
            edges.same("count(" + what + ")", y.count(what), due[what]);
        }
        MarginWays six = Check.told("deed 0;" + "person 0 0 0 to 0 0;".repeat(6));
        edges.same("all six are sent", six.count(6), 63);
        edges.says("NoSuchElementException: another what.");
        noSuch("count", from(14), MarginWays::count);
        edges.noSuch("count(14) of a new one", MarginWays::new, x -> x.count(14));
    }

    private void deed() {
        edges.promise(6);
        edges.says("Of a DEED: 0 how many PLACES, 1 those that are white (bits), 2 STILES to the next DEED (bits by PLACES), 3 INK of all, 4 who is in it (bits).");
        MarginWays y = Check.told("deed 9 9 9 9 9 9 9 9;deed 0;deed 0 0 0 0 0 0 0 0;deed 0 0 0 0 0 0 0 4;stile 0 0;stile 2 7;"
            + "person 0 7 0;person 3 7 0;person 0 0 0;person 1 0 0;person 0 3 0;person 0 3 0;");
        int[][] due = {{8, 0, 1, 72, 53}, {1, 1, 0, 0, 8}, {8, 255, 128, 0, 0}, {8, 127, 0, 4, 2}};
        for (int deed = 0; deed < 4; deed++) {
            for (int what = 0; what < 5; what++) {
                edges.same("deed(" + deed + ", " + what + ")", y.deed(deed, what), due[deed][what]);
            }
        }
        edges.says("NoSuchElementException: no such DEED (as everywhere), what.");
        for (int what = 0; what < 5; what++) {
            int w = what;
            noSuch("deed", NO_DEED, (x, deed) -> x.deed(deed, w));
        }
        noSuch("what", from(5), (x, what) -> x.deed(0, what));
        noSuch("reached: no deed", NO_DEED, (x, deed) -> x.reached(0, deed));
        noSuch("see: no deed", NO_DEED, (x, deed) -> x.see(0, deed, 0));
        MarginWays full = Check.told("deed 0;".repeat(6));
        edges.same("the sixth", full.deed(5, 0), 1);
        edges.noSuch("no seventh", () -> full, x -> x.deed(6, 0));
    }

    private void person() {
        edges.promise(7);
        edges.says("Of a PERSON: 0 where one is (10 by the DEED, and PLACE), 1 PACE, 2 to where one is SENT (so; NONE), 3 how many one has MET, 4 how far it is to there (NONE: no way, nowhere), 5 how many others are at one's PLACE.");
        MarginWays y = Check.told("deed 0 0 3 0;deed 0 0 0;stile 0 1;person 1 2 9 to 0 0;person 0 0 0 to 0 3;person 1 2 4;person 0 2 1 to 0 2;"
            + "person 1 2 5 to 1 2;person 0 3 2 to 0 2;");
        int[][] due = {{12, 9, 0, 0, 3, 2}, {0, 0, 3, 0, NONE, 0}, {12, 4, NONE, 0, NONE, 2}, {2, 1, 2, 0, 0, 0}, {12, 5, 12, 0, 0, 2},
            {3, 2, 2, 0, NONE, 0}};
        for (int who = 0; who < 6; who++) {
            for (int what = 0; what < 6; what++) {
                edges.same("person(" + who + ", " + what + ")", y.person(who, what), due[who][what]);
            }
        }
        y.days(1);
        edges.same("met", y.person(2, 3), 1);
        edges.same("met where one has come", y.person(0, 3), 1);
        edges.says("NoSuchElementException: no such PERSON (as everywhere), what.");
        for (int what = 0; what < 6; what++) {
            int w = what;
            noSuch("person", NO_PERSON, (x, who) -> x.person(who, w));
        }
        noSuch("what", from(6), (x, what) -> x.person(0, what));
        noSuch("send: nobody", NO_PERSON, (x, who) -> x.send(who, 0));
        noSuch("let: nobody", NO_PERSON, (x, who) -> x.let(who, 0));
        noSuch("errand: nobody", NO_PERSON, MarginWays::errand);
        noSuch("near: nobody", NO_PERSON, MarginWays::near);
        noSuch("see: nobody", NO_PERSON, (x, who) -> x.see(who, 0, 0));
        MarginWays six = Check.told("deed 0;" + "person 0 0 7;".repeat(6));
        edges.same("the sixth", six.person(5, 1), 7);
        edges.noSuch("no seventh", () -> six, x -> x.person(6, 1));
    }

    private void ink() {
        edges.promise(8);
        edges.says("INK of a PLACE (10 by the DEED, and PLACE).");
        String text = "deed 0 1 2 3 4 5 6 7;deed 1 2 3 4 5 6 7 8;deed 2 3 4 5 6 7 8 9;deed 9 8 7 6 5 4 3 2;"
            + "deed 8 7 6 5 4 3 2 1;deed 7 6 5 4 3 2 1 0;";
        MarginWays full = Check.told(text);
        for (int place = 0; place < 8; place++) {
            for (int deed = 0; deed < 6; deed++) {
                edges.same("ink of " + deed + ", " + place, full.ink(10 * deed + place), deed < 3 ? deed + place : 12 - deed - place);
            }
        }
        edges.says("NoSuchElementException: no such PLACE (as everywhere).");
        noSuch("ink", NO_PLACE, MarginWays::ink);
        noSuch("type", NO_PLACE, (x, place) -> x.type(place, 0));
        noSuch("stile", NO_PLACE, (x, place) -> x.stile(place, true) ? 1 : 0);
        noSuch("stile taken", NO_PLACE, (x, place) -> x.stile(place, false) ? 1 : 0);
        noSuch("let", NO_PLACE, (x, place) -> x.let(0, place));
        for (int place : NO_PLACE) {
            if (place != NONE) {
                edges.noSuch("send of " + place, EdgeOfCalls::made, x -> x.send(0, place));
            }
        }
        for (int place : new int[] {8, 9, 18, 49, 58, 59, 60, 80}) {
            edges.noSuch("no ninth place, no seventh deed: " + place, () -> Check.told(text), x -> x.ink(place));
        }
        edges.noSuch("no place at all", MarginWays::new, x -> x.ink(0));
        int[] sizes = {1, 1, 8, 1, 3, 8};
        String unlike = "deed 0;deed 0;deed 0 0 0 0 0 0 0 0;deed 0;deed 0 0 0;deed 0 0 0 0 0 0 0 0;";
        MarginWays y = Check.told(unlike);
        for (int i = 0; i < 80; i++) {
            int place = i;
            if (i / 10 < 6 && i % 10 < sizes[i / 10]) {
                edges.same("there is " + i, y.ink(i), 0);
            } else {
                edges.noSuch("there isn't " + i, () -> Check.told(unlike), x -> x.ink(place));
            }
        }
    }

    /** The last PERSON, DEED and PLACE that there can be are taken by every call. */
    private void theLast() {
        edges.in("## Terms");
        edges.says("PEOPLE 0, 1 .. (at most 6)");
        MarginWays y = Check.told("deed 0 0 0 0 0 0 0 0;".repeat(6) + "stile 4 7;" + "person 0 0 1 to 0 1;".repeat(5) + "person 4 7 1 to 5 6;");
        edges.same("person", y.person(5, 0), 47);
        edges.same("then", y.then(5, 1, 1), 7);
        edges.same("comes", y.comes(5), 2);
        edges.same("meet", y.meet(5, 4), NONE);
        edges.same("meet", y.meet(4, 3), 0);
        edges.same("near", y.near(5), NONE);
        edges.same("errand", y.errand(5), 5);
        edges.same("candles", y.candles(5, 2, 0), 100);
        edges.same("game", y.game(5, 0, 0), 1);
        edges.same("game", y.game(0, 5, 1), 0);
        edges.same("gone", y.gone(5, 60), 2);
        edges.same("see", y.see(5, 5, 1), 1);
        edges.same("quick: all but its pace 0, and the others'", y.quick(0), 8 + 45);
        edges.same("look", y.look(0), 0);
        edges.same("send", y.send(5, 57), 56);
        edges.same("let", y.let(5, 57), 47);
        edges.same("deed", y.deed(5, 4), 32);
        edges.same("type", y.type(57, 9), 0);
        edges.same("ink", y.ink(57), 9);
        edges.same("clear", y.clear(57), 45);
        edges.same("reached", y.reached(57, 5), 255);
        edges.same("way", y.way(57, 47, 0), 1);
        edges.same("way", y.way(47, 57, 2), 1);
        edges.same("ways", y.ways(57, 40), 1);
        edges.same("farthest", y.farthest(57, 0), 40);
        edges.isTrue("stile", y.stile(47, false));
        edges.isFalse("stile", y.stile(57, false));
    }

    private void then() {
        edges.promise(15);
        edges.says("THEN: the DEED (what 0), PLACE (1), MET (2), whether SENT somewhere (3; 1).");
        MarginWays y = Check.told(BASE);
        int[][] due = {{0, 0, 0, 1}, {0, 2, 0, 1}, {1, 3, 1, 0}};
        for (int days = 0; days < 3; days++) {
            for (int what = 0; what < 4; what++) {
                edges.same("then(0, " + days + ", " + what + ")", y.then(0, days, what), due[days][what]);
            }
        }
        edges.says("NoSuchElementException: also another what.");
        noSuch("person", NO_PERSON, (x, who) -> x.then(who, 0, 0));
        noSuch("what", from(4), (x, what) -> x.then(0, 0, what));
        edges.says("IllegalArgumentException (behind that): not 0 to 60.");
        illegal("days", NO_DAYS, (x, days) -> x.then(0, days, 3));
        noSuch("person ahead of days", NO_PERSON, (x, who) -> x.then(who, 61, 0));
        noSuch("what ahead of days", from(4), (x, what) -> x.then(0, -1, what));
        edges.same("60", made().then(0, 60, 0), 1);
    }

    private void comesAndMeet() {
        edges.promise(16);
        edges.says("COMES; NONE: none, one isn't SENT.");
        edges.same("comes", Check.told(BASE).comes(0), 2);
        edges.same("one isn't sent", made().comes(2), NONE);
        edges.same("none", Check.told("deed 0;deed 0;person 0 0 9 to 1 0;").comes(0), NONE);
        noSuch("person", NO_PERSON, MarginWays::comes);
        edges.promise(17);
        edges.says("MEET; NONE: none, both are one.");
        edges.same("meet", Check.told(BASE).meet(2, 0), 2);
        edges.same("none", made().meet(0, 1), NONE);
        for (int who = 0; who < 3; who++) {
            edges.same("both are one", made().meet(who, who), NONE);
        }
        noSuch("person", NO_PERSON, (x, who) -> x.meet(who, 0));
        noSuch("other", NO_PERSON, (x, who) -> x.meet(0, who));
        noSuch("both", NO_PERSON, (x, who) -> x.meet(who, who));
    }

    private void later() {
        edges.promise(18);
        edges.says("CROWD: how many (what 0; 0: nobody), the PLACE (1; NONE: nobody), INKED (2).");
        MarginWays y = Check.told(BASE);
        edges.same("how many", y.later(2, 0), 2);
        edges.same("the place", y.later(2, 1), 13);
        edges.same("inked", y.later(2, 2), 2);
        MarginWays nobody = Check.told("deed 0 4;");
        edges.same("nobody: 0", nobody.later(0, 0), 0);
        edges.same("nobody: none", nobody.later(60, 1), NONE);
        edges.same("inked all the same", nobody.later(0, 2), 1);
        edges.says("NoSuchElementException: another what.");
        noSuch("what", from(3), (x, what) -> x.later(0, what));
        edges.says("IllegalArgumentException (behind that): not 0 to 60.");
        for (int what = 0; what < 3; what++) {
            int w = what;
            illegal("days", NO_DAYS, (x, days) -> x.later(days, w));
        }
        noSuch("what ahead of days", from(3), (x, what) -> x.later(61, what));
        edges.same("60", made().later(60, 2), 0);
    }

    private void clear() {
        edges.promise(19);
        edges.says("CLEAR; NONE: none.");
        edges.same("now", made().clear(0), 0);
        edges.same("behind 14 more", made().clear(3), 14);
        edges.same("none", Check.told("deed 1;fades 0;").clear(0), NONE);
        noSuch("place", NO_PLACE, MarginWays::clear);
    }

    private void way() {
        edges.promise(20);
        edges.says("HOW FAR (what 0), the FIRST STEP (1), TO CLEAR (2), NEEDED (3; 0, if there is no way); NONE: none, for the FIRST STEP also, if both are one.");
        int[][] due = {{0, 13, 4, 1, 0, 3}, {10, 4, NONE, NONE, 2, 0}, {0, 0, 0, NONE, 0, 0}, {3, 3, 0, NONE, 0, 0}, {2, 3, NONE, NONE, 1, 0},
            {3, 4, 1, 4, 0, 0}, {4, 3, NONE, NONE, 1, 0}, {21, 0, NONE, NONE, 1, 0}, {11, 20, 2, 10, 0, 1}};
        for (int[] row : due) {
            for (int what = 0; what < 4; what++) {
                edges.same("way(" + row[0] + ", " + row[1] + ", " + what + ")", made().way(row[0], row[1], what), row[2 + what]);
            }
        }
        edges.same("none by any", Check.told("deed 0;deed 0;").way(0, 10, 2), NONE);
        edges.says("NoSuchElementException: also another what.");
        noSuch("what", from(4), (x, what) -> x.way(0, 0, what));
        for (int what = 0; what < 4; what++) {
            int w = what;
            noSuch("from no place", NO_PLACE, (x, place) -> x.way(place, 0, w));
            noSuch("to no place", NO_PLACE, (x, place) -> x.way(0, place, w));
            noSuch("neither", NO_PLACE, (x, place) -> x.way(place, place, w));
        }
    }

    private void reachedAndFarthest() {
        edges.promise(21);
        edges.says("REACHED, as bits.");
        edges.same("deed 0", made().reached(0, 0), 7);
        edges.same("deed 1", made().reached(0, 1), 12);
        edges.same("deed 2", made().reached(0, 2), 0);
        noSuch("place", NO_PLACE, (x, place) -> x.reached(place, 0));
        noSuch("deed", NO_DEED, (x, deed) -> x.reached(0, deed));
        edges.promise(22);
        edges.says("FARTHEST: which (what 0; itself, if there is none else), how far (1).");
        edges.same("which", made().farthest(0, 0), 13);
        edges.same("how far", made().farthest(0, 1), 4);
        edges.same("itself", made().farthest(4, 0), 4);
        edges.same("itself", made().farthest(4, 1), 0);
        edges.same("itself with ink all about", Check.told("deed 2 2 2;").farthest(1, 0), 1);
        edges.says("NoSuchElementException: also another what.");
        noSuch("what", from(2), (x, what) -> x.farthest(0, what));
        noSuch("place", NO_PLACE, (x, place) -> x.farthest(place, 0));
        noSuch("place", NO_PLACE, (x, place) -> x.farthest(place, 1));
    }

    private void gather() {
        edges.promise(23);
        edges.says("WHERE ALL should meet: which (what 0; NONE), how far (1; NONE).");
        edges.same("which", Check.told(BASE).gather(0), 0);
        edges.same("how far", Check.told(BASE).gather(1), 4);
        edges.same("nobody", Check.told("deed 0;").gather(0), NONE);
        edges.same("nobody", Check.told("deed 0;").gather(1), NONE);
        edges.says("NoSuchElementException: another what.");
        noSuch("what", from(2), MarginWays::gather);
        edges.noSuch("without people, too", MarginWays::new, x -> x.gather(2));
    }

    private void errands() {
        edges.promise(24);
        edges.says("WHO GOES: how many (what 0), how far (1).");
        edges.same("how many", made().errands(0), 1);
        edges.same("how far", made().errands(1), 0);
        edges.same("none", Check.told("deed 0;person 0 0 0;").errands(0), 0);
        edges.same("none", Check.told("deed 0;person 0 0 0;").errands(1), 0);
        edges.says("NoSuchElementException: another what.");
        noSuch("what", from(2), MarginWays::errands);
        edges.promise(25);
        edges.says("WHO GOES: whose errand one takes; NONE: none.");
        edges.same("none", made().errand(0), NONE);
        edges.same("none", made().errand(1), NONE);
        edges.same("the first one's", made().errand(2), 0);
        noSuch("person", NO_PERSON, MarginWays::errand);
    }

    private void quickAndLook() {
        edges.promise(28);
        edges.says("QUICK: how many (what 0), the first (1; NONE: none), whether without (2).");
        MarginWays y = Check.told(BASE);
        y.see(0, 1, 1);
        edges.same("3 to 9", y.quick(0), 7);
        edges.same("the first", y.quick(1), 3);
        edges.same("not without", y.quick(2), 0);
        y.see(0, 0, 1);
        edges.same("none", y.quick(0), 0);
        edges.same("none", y.quick(1), NONE);
        edges.says("NoSuchElementException: another what.");
        noSuch("what", from(3), MarginWays::quick);
        edges.promise(29);
        edges.says("LOOK NEXT (what 0; NONE), how many (1; 0: none).");
        edges.same("none", y.look(0), NONE);
        edges.same("none", y.look(1), 0);
        y.forget();
        y.see(0, 1, 1);
        edges.same("all are at one place each: the least", y.look(0), 0);
        edges.same("one", y.look(1), 1);
        edges.says("NoSuchElementException: another what.");
        noSuch("what", from(2), MarginWays::look);
    }

    private void candles() {
        edges.promise(30);
        edges.says("CANDLES.");
        edges.same("two days of two", Check.told(BASE).candles(0, 2, 5), 25);
        edges.says("IllegalArgumentException (behind NoSuchElementException): days, tenths.");
        illegal("days", new int[] {0, 6, -1, LEAST, MOST}, (x, days) -> x.candles(0, days, 5));
        illegal("tenths", new int[] {-1, 11, LEAST, MOST}, (x, tenths) -> x.candles(0, 5, tenths));
        illegal("both", new int[] {-1, 11, LEAST, MOST}, (x, both) -> x.candles(2, both, both));
        noSuch("person ahead", NO_PERSON, (x, who) -> x.candles(who, 0, 11));
        noSuch("person", NO_PERSON, (x, who) -> x.candles(who, 1, 0));
    }

    private void game() {
        edges.promise(31);
        edges.says("A GAME: how many couples rest (what 0), the first (1; NONE: none); NONE for both, if one isn't SENT.");
        edges.same("how many", Check.told(BASE).game(0, 1, 0), 2);
        edges.same("the first", Check.told(BASE).game(0, 1, 1), 0);
        MarginWays none = Check.told("deed 0 0 0 0;person 0 1 2 to 0 3;person 0 2 2 to 0 0;person 0 0 1 to 0 3;goes met=0;");
        edges.same("none rests: 0", none.game(0, 1, 0), 0);
        edges.same("none rests: none", none.game(0, 1, 1), NONE);
        for (int what = 0; what < 2; what++) {
            edges.same("one isn't sent", made().game(0, 2, what), NONE);
            edges.same("one isn't sent", made().game(2, 1, what), NONE);
        }
        edges.says("NoSuchElementException: also another what.");
        noSuch("what", from(2), (x, what) -> x.game(0, 1, what));
        noSuch("what, though one isn't sent", from(2), (x, what) -> x.game(0, 2, what));
        noSuch("person", NO_PERSON, (x, who) -> x.game(who, 0, 0));
        noSuch("other", NO_PERSON, (x, who) -> x.game(0, who, 0));
        edges.says("IllegalArgumentException (behind that): both are one.");
        for (int who = 0; who < 3; who++) {
            int both = who;
            edges.illegal("both are " + who + ", sent or not", EdgeOfCalls::made, x -> x.game(both, both, 0));
            edges.illegal("both are " + who + ", sent or not", EdgeOfCalls::made, x -> x.game(both, both, 1));
            edges.noSuch("what ahead", EdgeOfCalls::made, x -> x.game(both, both, 2));
        }
        noSuch("both are nobody", NO_PERSON, (x, who) -> x.game(who, who, 0));
    }

    private void years() {
        edges.promise(32);
        edges.says("YEARS: how often (what 0), how many MET (1), PLACES (2).");
        edges.same("how often", Check.told(BASE).years(1, 2, 0), 1);
        edges.same("how many", Check.told(BASE).years(1, 0, 1), 0);
        edges.same("places", Check.told(BASE).years(1, 0, 2), 2);
        edges.says("NoSuchElementException: another what.");
        noSuch("what", from(3), (x, what) -> x.years(0, 0, what));
        edges.says("IllegalArgumentException (behind that): n.");
        for (int what = 0; what < 3; what++) {
            int w = what;
            illegal("n", NO_DAYS, (x, n) -> x.years(5, n, w));
        }
        noSuch("what ahead of n", from(3), (x, what) -> x.years(5, 61, what));
    }

    private void ahead() {
        edges.promise(33);
        edges.says("LONELY (what 0; bits), THICKEST (1; NONE).");
        MarginWays y = Check.told(BASE);
        edges.same("lonely", y.ahead(5, 0), 2);
        edges.same("lonely", y.ahead(0, 0), 7);
        edges.same("thickest", y.ahead(14, 1), 3);
        edges.same("none", y.ahead(15, 1), NONE);
        edges.says("NoSuchElementException: another what.");
        noSuch("what", from(2), (x, what) -> x.ahead(0, what));
        edges.says("IllegalArgumentException (behind that): not 0 to 60.");
        illegal("days", NO_DAYS, (x, days) -> x.ahead(days, 0));
        illegal("days", NO_DAYS, (x, days) -> x.ahead(days, 1));
        noSuch("what ahead of days", from(2), (x, what) -> x.ahead(61, what));
    }

    private void waysNearGone() {
        edges.promise(34);
        edges.says("SHORTEST WAYS.");
        edges.same("one", made().ways(0, 13), 1);
        edges.same("to itself", made().ways(3, 3), 1);
        edges.same("none", made().ways(10, 4), 0);
        noSuch("from no place", NO_PLACE, (x, place) -> x.ways(place, 0));
        noSuch("to no place", NO_PLACE, (x, place) -> x.ways(0, place));
        noSuch("neither", NO_PLACE, (x, place) -> x.ways(place, place));
        edges.promise(35);
        edges.says("NEAR; NONE: none.");
        edges.same("near", made().near(0), 2);
        edges.same("none", made().near(1), NONE);
        noSuch("person", NO_PERSON, MarginWays::near);
        edges.promise(36);
        edges.says("GONE.");
        edges.same("gone", Check.told(BASE).gone(0, 5), 4);
        edges.same("one isn't sent", made().gone(2, 60), 0);
        edges.says("IllegalArgumentException (behind NoSuchElementException): not 0 to 60.");
        illegal("days", NO_DAYS, (x, days) -> x.gone(0, days));
        noSuch("person ahead of days", NO_PERSON, (x, who) -> x.gone(who, 61));
        noSuch("person", NO_PERSON, (x, who) -> x.gone(who, 0));
    }

    /** Days that only might go by, paces that one only might have: all is as it was behind each question. */
    private void questionsChangeNothing() {
        edges.in("==== 3.");
        edges.says("(If only DAYS go by, from now on:)");
        for (int who = 0; who < 3; who++) {
            int p = who;
            for (int w = 0; w < 4; w++) {
                int what = w;
                edges.asks("then", EdgeOfCalls::asked, y -> y.then(p, 20, what));
                edges.asks("way", EdgeOfCalls::asked, y -> y.way(10 * (p % 2), 3, what));
                edges.asks("years", EdgeOfCalls::asked, y -> y.years(p, 60, what));
                edges.asks("later", EdgeOfCalls::asked, y -> y.later(30, what));
                edges.asks("ahead", EdgeOfCalls::asked, y -> y.ahead(30, what));
                edges.asks("quick", EdgeOfCalls::asked, y -> y.quick(what));
                edges.asks("look", EdgeOfCalls::asked, y -> y.look(what));
                edges.asks("game", EdgeOfCalls::asked, y -> y.game(p, (p + 1) % 3, what));
                edges.asks("gather", EdgeOfCalls::asked, y -> y.gather(what));
                edges.asks("errands", EdgeOfCalls::asked, y -> y.errands(what));
                edges.asks("farthest", EdgeOfCalls::asked, y -> y.farthest(10, what));
            }
            edges.asks("comes", EdgeOfCalls::asked, y -> y.comes(p));
            edges.asks("meet", EdgeOfCalls::asked, y -> y.meet(p, (p + 1) % 3));
            edges.asks("clear", EdgeOfCalls::asked, y -> y.clear(13));
            edges.asks("reached", EdgeOfCalls::asked, y -> y.reached(10, p));
            edges.asks("errand", EdgeOfCalls::asked, y -> y.errand(p));
            edges.asks("candles", EdgeOfCalls::asked, y -> y.candles(p, 5, 5));
            edges.asks("ways", EdgeOfCalls::asked, y -> y.ways(0, 12));
            edges.asks("near", EdgeOfCalls::asked, y -> y.near(p));
            edges.asks("gone", EdgeOfCalls::asked, y -> y.gone(p, 60));
        }
        MarginWays y = asked();
        for (int who = 0; who < 3; who++) {
            y.then(who, 20, 0);
            y.candles(who, 5, 5);
            y.years(who, 60, 0);
            y.quick(0);
            y.look(0);
            y.game(0, 1, 0);
        }
        edges.isFalse("no image was made", y.restore());
        edges.same("the acts are as they were", y.undo(), 1);
        edges.same("the acts are as they were", y.undo(), 0);
        edges.same("the ink is as it was", y.ink(10), 0);
        edges.same("the paces are as they were", 100 * y.person(0, 1) + 10 * y.person(1, 1) + y.person(2, 1), 120);
    }

    private static MarginWays asked() {
        MarginWays y = Check.told("deed 0 0 2 0;deed 0 0 0 1;stile 0 1;stile 0 3;person 0 0 1 to 1 2;person 1 0 2 to 0 3;person 0 0 0;fades 1;");
        y.type(10, 4);
        y.days(1);
        y.see(0, 0, 0);
        return y;
    }
}
