/** Promises 1 to 5, 9 to 14, 26, 27, 37, 38: the tape, the text, acts, what is seen, the image. */
final class EdgeOfState {
    private static final int NONE = MarginWays.NONE;
    private static final String BASE = "deed 0 0 0 3 0;deed 0 2 0 0;deed 0 0;stile 0 2;stile 1 0;"
        + "person 0 0 2 to 1 3;person 1 0 1 to 0 4;person 1 3 3;";

    private static final String EIGHT = "deed 0 0 0 0 0 0 0 0;";

    private final Edges edges;

    EdgeOfState(Edges edges) {
        this.edges = edges;
    }

    void all() {
        constants();
        calls();
        newObject();
        feed();
        cellar();
        cellarAnew();
        fault();
        days();
        type();
        stile();
        send();
        let();
        undo();
        see();
        image();
        restore();
    }

    private static MarginWays base() {
        return Check.told(BASE);
    }

    private void constants() {
        edges.in("==== 5.");
        edges.says("The constants: `NONE = -1`: There is none.");
        edges.same("NONE", MarginWays.NONE, -1);
    }

    private void calls() {
        edges.in("# MarginWays");
        edges.says("An object is used for at most 512 calls after it has been made; what later calls answer is free.");
        MarginWays x = new MarginWays();
        Check.cellar(x, "deed 0;");
        for (int i = 1; i <= 509; i++) {
            x.type(0, i % 10);
        }
        edges.same("the 512th call", x.ink(0), 9);
        MarginWays y = new MarginWays();
        for (int i = 1; i <= 511; i++) {
            y.days(0);
        }
        edges.same("the 512th call", y.count(12), 511);
        MarginWays z = new MarginWays();
        for (int i = 1; i <= 511; i++) {
            z.feed(0, 0, 0, 0, 0);
        }
        edges.same("the 512th call", z.feed(0, 0, 0, 0, 0), NONE);
        MarginWays texts = new MarginWays();
        for (int i = 1; i <= 255; i++) {
            Check.cellar(texts, i % 2 == 0 ? "deed 0;" : "deed");
        }
        edges.same("the 511th call", texts.fault(), 4);
        edges.same("the 512th call", texts.count(11), 128);
    }

    private void newObject() {
        edges.promise(1);
        edges.says("No DEEDS, nobody.");
        MarginWays x = new MarginWays();
        for (int what = 0; what < 14; what++) {
            edges.same("count(" + what + ")", x.count(what), 0);
        }
        edges.same("no fault", x.fault(), NONE);
        edges.noSuch("no deed", MarginWays::new, made -> made.deed(0, 0));
        edges.noSuch("no person", MarginWays::new, made -> made.person(0, 0));
        edges.noSuch("no place", MarginWays::new, made -> made.ink(0));
        edges.same("no act", x.undo(), NONE);
        edges.isFalse("no image", x.restore());
        edges.same("nobody anywhere", x.later(0, 0), 0);
        edges.same("nowhere", x.later(0, 1), NONE);
        edges.same("days go by all the same", x.days(20), 20);
        edges.same("and are undone", x.undo(), 0);
        edges.same("the day", x.count(2), 0);
        x.image();
        edges.isTrue("an image of it", x.restore());
    }

    private void feed() {
        edges.promise(2);
        edges.says("Twenty bytes come behind the tape, of each number the highest first: how many it has;");
        MarginWays x = new MarginWays();
        edges.same("20", x.feed(0x64656564, 0x20312032, 0x20332034, 0x20352036, 0x20372038), 20);
        edges.same("behind them", x.feed(0x3b20200a, 0x20202020, 0x20202020, 0x20202020, 0x20202020), 40);
        edges.same("no fault", x.cellar(40), 0);
        for (int place = 0; place < 8; place++) {
            edges.same("the highest first", x.ink(place), place + 1);
        }
        MarginWays bytes = new MarginWays();
        bytes.feed(-1, Integer.MIN_VALUE, 0x7fffffff, 0, 0);
        edges.same("a byte is 0 to 255, so none of a token's", bytes.cellar(20), 1);
        edges.same("the first one", bytes.fault(), 0);
        MarginWays high = new MarginWays();
        high.feed(0x0a0a0a0a, 0x0a0a0aa0, 0, 0, 0);
        edges.same("160 is no blank", high.cellar(20), 1);
        edges.same("160 is no blank", high.fault(), 7);
        edges.says("NONE, and none come, if it would have more than 700.");
        MarginWays y = new MarginWays();
        for (int many = 20; many <= 700; many += 20) {
            edges.same("feed", y.feed(0x20202020, 0x20202020, 0x20202020, 0x20202020, 0x20202020), many);
        }
        for (int i = 0; i < 2; i++) {
            edges.same("beyond 700", y.feed(-1, -1, -1, -1, -1), NONE);
            edges.same("none come", y.count(10), 700);
        }
        edges.same("the 700 are as they were", y.cellar(700), 0);
        edges.same("and again from the beginning", y.feed(0, 0, 0, 0, 0), 20);
    }

    private void cellar() {
        edges.promise(3);
        edges.says("The tape's first n bytes (it is empty then) are a CELLAR,");
        MarginWays x = new MarginWays();
        Check.feed(x, "deed 1;deed 2;deed 3;");
        edges.same("the tape", x.count(10), 40);
        edges.same("the first 14", x.cellar(14), 0);
        edges.same("two deeds", x.count(0), 2);
        edges.same("the tape is empty then", x.count(10), 0);
        Check.feed(x, "deed 4;");
        edges.same("what was behind them is gone", x.cellar(7), 0);
        edges.same("one deed", x.count(0), 1);
        edges.same("the new one", x.ink(0), 4);
        Check.feed(x, "deed 4;");
        edges.same("none of its bytes", x.cellar(0), 0);
        edges.same("no deeds", x.count(0), 0);
        edges.same("the tape is empty then", x.count(10), 0);
        edges.same("of an empty tape", x.cellar(0), 0);
        for (int what = 0; what < 14; what++) {
            edges.same("as a new object: count(" + what + ")", x.count(what), 0);
        }
        edges.same("all its bytes", Check.cellar(x, "deed 0;deed 0;      "), 0);
        edges.same("two deeds", x.count(0), 2);
        edges.says("all anew: 0, or the FAULT (all stays).");
        MarginWays y = base();
        y.days(3);
        y.type(4, 7);
        y.send(2, 0);
        y.see(0, 0, 5);
        y.image();
        String before = Edges.state(y);
        int comes = y.comes(1);
        Check.feed(y, "deed 0;deed 10;");
        edges.same("a fault", y.cellar(15), 2);
        edges.same("its place", y.fault(), 12);
        edges.same("it counts", y.count(11), 1);
        edges.same("the tape is empty then, too", y.count(10), 0);
        edges.isTrue("all else stays", Edges.state(y).replace("count11=1 ", "count11=0 ").replace("fault=12 ", "fault=-1 ").equals(before));
        edges.same("the rules stay", y.comes(1), comes);
        edges.isTrue("the image stays", y.restore());
        edges.same("acts stay", y.undo(), 2);
        edges.same("what was sent", y.person(2, 2), NONE);
        edges.same("acts stay", y.undo(), 1);
        edges.same("what was typed", y.ink(4), 0);
        edges.same("acts stay", y.undo(), 0);
        edges.same("the day", y.count(2), 0);
        MarginWays rule = Check.told("deed 0 0 2;person 0 0 1 to 0 1;goes day=4;fades 1;");
        edges.same("a fault behind other rules", Check.cellar(rule, "deed 0;goes 1;fades 0;x"), 1);
        edges.same("goes stays", rule.comes(0), 5);
        edges.same("fades stays", rule.clear(2), 2);
    }

    private void cellarAnew() {
        edges.says("ACTS, what is SEEN, the image are gone (STATUS stays).");
        MarginWays y = base();
        y.days(2);
        y.type(0, 5);
        y.see(0, 0, 5);
        y.see(0, 0, 21);
        y.days(0);
        Check.cellar(y, "?");
        y.image();
        edges.same("a new one", Check.cellar(y, "deed 0;person 0 0 0;"), 0);
        edges.same("acts", y.count(8), 0);
        edges.same("no act to undo", y.undo(), NONE);
        edges.same("seen", y.count(9), 0);
        edges.isFalse("the image", y.restore());
        edges.same("the day is 0 again", y.count(2), 0);
        edges.same("met is 0 again", y.count(7), 0);
        edges.same("status 0 stays", y.count(11), 1);
        edges.same("status 1 stays", y.count(12), 1);
        edges.same("status 2 stays", y.count(13), 1);
        edges.same("stiles are gone", y.count(4), 0);
        edges.same("nobody is sent", y.count(6), 0);
        MarginWays rule = Check.told("deed 0 0 5;person 0 0 1 to 0 1;goes 0;fades 0;");
        Check.cellar(rule, "deed 0 0 1;person 0 0 1 to 0 1;");
        edges.same("goes is gone", rule.comes(0), 1);
        edges.same("fades is gone", rule.clear(2), 5);
        MarginWays less = Check.told("deed 1 1 1;deed 1 1 1;stile 0 0;");
        Check.cellar(less, "deed 0;deed 0 0;");
        edges.same("no ink is left", less.count(5), 0);
        edges.same("no place is left", less.deed(0, 0), 1);
        edges.noSuch("no place is left", () -> less, made -> made.ink(1));
        oneTextBehindAnother();
        askedAheadOfAnother();
        edges.says("IllegalArgumentException: the tape has not so many, n below 0 (nothing changes).");
        for (int n : new int[] {21, -1, 700, 701, Integer.MIN_VALUE, Integer.MAX_VALUE}) {
            edges.illegal("cellar(" + n + ") of 20 bytes", EdgeOfState::withTape, made -> made.cellar(n));
        }
        MarginWays x = withTape();
        edges.illegal("21 of 20 bytes", () -> x, made -> made.cellar(21));
        edges.same("fault() stays", x.fault(), 5);
        edges.same("the tape stays", x.cellar(20), 0);
        edges.same("as it was", x.ink(10), 2);
        edges.illegal("an empty tape", MarginWays::new, made -> made.cellar(1));
        MarginWays full = new MarginWays();
        for (int i = 0; i < 35; i++) {
            full.feed(0x20202020, 0x20202020, 0x20202020, 0x20202020, 0x20202020);
        }
        edges.illegal("701", () -> full, made -> made.cellar(701));
        edges.same("700", full.cellar(700), 0);
    }

    private static MarginWays withTape() {
        MarginWays x = base();
        Check.cellar(x, "deed 10;");
        Check.feed(x, "deed 1;deed 2;");
        return x;
    }

    /** Of all texts ahead nothing is left: an object with some is as one with the last alone. */
    private void oneTextBehindAnother() {
        String[] texts = {BASE + "goes 0;fades 0;", "deed 0;", "x", "", "deed 9 9 9 9 9 9 9 9;".repeat(6) + "person 5 7 9 to 0 0;".repeat(6),
            "deed 0 0;person 0 0 1 to 0 1;", "deed 0 0 0;goes 0;fades 0;x", "deed 0 0 5;person 0 0 1 to 0 1;",
            "deed 0 0 0 0 0 0 0 0;".repeat(6) + "stile 0 0;stile 4 7;", "deed 0;deed 0 0;person 1 1 3 to 0 0;person 1 0 3 to 1 0;",
            "deed 0 0 0;" + "person 0 0 1 to 0 2;".repeat(6) + "goes day=7;", "deed 0 0;person 0 0 0 to 0 1;person 0 1 1 to 0 0;", "deed",
            "deed 0;deed 0;", "deed 4 4;deed 4 4;stile 0 1;person 0 1 1 to 1 1;fades 2;", "deed 9;", "deed 0;",
            ""};
        for (int last = 0; last < texts.length; last++) {
            MarginWays some = new MarginWays();
            MarginWays alone = new MarginWays();
            for (int i = Math.max(0, last - 5); i <= last; i++) {
                if (Check.cellar(some, texts[i]) == 0) {
                    alone = Check.told(texts[i]);
                }
            }
            edges.isTrue("as one with the last text without a fault alone: " + texts[last], answers(some).equals(answers(alone)));
        }
    }

    /** Nor is anything left of what was asked about the text ahead. */
    private void askedAheadOfAnother() {
        MarginWays x = Check.told("deed 0;" + "person 0 0 0 to 0 0;".repeat(6));
        edges.same("all six", x.errands(0), 6);
        edges.same("one's own", x.errand(5), 5);
        Check.cellar(x, "deed 0 0;person 0 0 0 to 0 1;person 0 0 0;person 0 0 0;");
        edges.same("one of three", x.errands(0), 1);
        edges.same("one step", x.errands(1), 1);
        edges.same("the first one's", x.errand(0), 0);
        edges.same("none", x.errand(2), NONE);
    }

    private static String answers(MarginWays x) {
        StringBuilder all = new StringBuilder(Edges.state(x).replaceAll("(count11|fault)=-?\\d+", ""));
        for (int what = 0; what < 2; what++) {
            all.append(' ').append(x.errands(what)).append(' ').append(x.gather(what)).append(' ').append(x.look(what)).append(' ');
            all.append(x.later(20, what)).append(' ').append(x.ahead(20, what)).append(' ').append(x.years(9, 40, what)).append(' ');
            all.append(x.quick(what));
        }
        for (int who = 0; who < x.count(1); who++) {
            all.append(' ').append(x.comes(who)).append(' ').append(x.errand(who)).append(' ').append(x.near(who));
        }
        return all.toString();
    }

    private void fault() {
        edges.promise(4);
        edges.says("The place of the latest cellar()'s FAULT; NONE without.");
        MarginWays x = new MarginWays();
        edges.same("none yet", x.fault(), NONE);
        Check.cellar(x, "deed 0;deed");
        edges.same("the text's length", x.fault(), 11);
        Check.cellar(x, "x");
        edges.same("the latest one's", x.fault(), 0);
        Check.cellar(x, "deed 0;");
        edges.same("none without", x.fault(), NONE);
        Check.cellar(x, " ".repeat(699) + "x");
        edges.same("the last byte", x.fault(), 699);
        Check.cellar(x, "deed" + " ".repeat(696));
        edges.same("the longest text's length", x.fault(), 700);
        x.days(0);
        x.image();
        x.restore();
        edges.same("other calls leave it", x.fault(), 700);
    }

    private void days() {
        edges.promise(9);
        edges.says("DAYS go by: the DAY.");
        MarginWays x = base();
        edges.same("1", x.days(1), 1);
        edges.same("20", x.days(20), 21);
        edges.same("the day", x.count(2), 21);
        edges.says("NONE (STATUS 1): not 1 to 20, it would be above 9999.");
        for (int many : new int[] {0, -1, 21, 9999, Integer.MIN_VALUE, Integer.MAX_VALUE}) {
            edges.refused("days(" + many + ")", EdgeOfState::base, 1, NONE, made -> made.days(many));
        }
        MarginWays y = Check.told("deed 0 0;person 0 0 1 to 0 1;goes day=9999+59;");
        for (int i = 0; i < 499; i++) {
            y.days(20);
        }
        edges.same("9980", y.count(2), 9980);
        edges.same("20 would be above", y.days(20), NONE);
        edges.same("19", y.days(19), 9999);
        edges.same("1 more", y.days(1), NONE);
        edges.same("refused", y.count(12), 2);
        edges.same("the days ahead go on", y.comes(0), 60);
    }

    private void type() {
        edges.promise(10);
        edges.says("TYPED: INK as it was.");
        MarginWays x = base();
        edges.same("3", x.type(3, 9), 3);
        edges.same("9", x.type(3, 0), 9);
        edges.same("0", x.type(3, 1), 0);
        edges.same("1", x.ink(3), 1);
        edges.same("not white any more", x.deed(0, 1), 23);
        x.type(3, 0);
        edges.same("white", x.deed(0, 1), 31);
        edges.same("the same ink is typed, too", x.type(3, 0), 0);
        edges.same("and none is refused", x.count(12), 0);
        edges.same("where one stands", x.type(0, 4), 0);
        edges.same("one stays there", x.person(0, 0), 0);
        edges.says("NONE (STATUS 1): not 0 to 9.");
        for (int ink : new int[] {-1, 10, Integer.MIN_VALUE, Integer.MAX_VALUE}) {
            edges.refused("type(3, " + ink + ")", EdgeOfState::base, 1, NONE, made -> made.type(3, ink));
        }
        edges.noSuch("a place that isn't there comes first", EdgeOfState::base, made -> made.type(5, 10));
    }

    private void stile() {
        edges.promise(11);
        edges.says("A STILE from a PLACE to the next DEED is set (true), or taken: true.");
        MarginWays x = base();
        edges.isTrue("set", x.stile(0, true));
        edges.same("by it", x.way(0, 10, 0), 1);
        edges.same("stiles", x.count(4), 3);
        edges.isTrue("taken", x.stile(0, false));
        edges.same("no way by it", x.way(0, 10, 0), NONE);
        edges.isTrue("one of the text is taken", x.stile(2, false));
        edges.same("stiles", x.count(4), 1);
        edges.isTrue("where there is ink", x.stile(3, true));
        MarginWays full = Check.told(EIGHT.repeat(6));
        for (int deed = 0; deed < 5; deed++) {
            for (int place = 0; place < 8; place++) {
                edges.isTrue("set", full.stile(10 * deed + place, true));
            }
            edges.same("all of a deed", full.deed(deed, 2), 255);
        }
        edges.same("40 in all", full.count(4), 40);
        edges.same("40 acts", full.count(8), 40);
        edges.says("False (STATUS 1): it is so already, the next DEED hasn't that PLACE, there is no next one.");
        edges.refused("set already", EdgeOfState::base, 1, 0, made -> made.stile(2, true) ? 1 : 0);
        edges.refused("not there already", EdgeOfState::base, 1, 0, made -> made.stile(0, false) ? 1 : 0);
        edges.refused("the next one hasn't that place", EdgeOfState::base, 1, 0, made -> made.stile(4, true) ? 1 : 0);
        edges.refused("the next one hasn't that place", EdgeOfState::base, 1, 0, made -> made.stile(4, false) ? 1 : 0);
        edges.refused("the next one hasn't that place", EdgeOfState::base, 1, 0, made -> made.stile(12, true) ? 1 : 0);
        edges.refused("no next one", EdgeOfState::base, 1, 0, made -> made.stile(20, true) ? 1 : 0);
        edges.refused("no next one", EdgeOfState::base, 1, 0, made -> made.stile(21, false) ? 1 : 0);
        edges.refused("no next one of the sixth", () -> Check.told(EIGHT.repeat(6)), 1, 0, made -> made.stile(57, true) ? 1 : 0);
        edges.refused("no next one of the sixth", () -> Check.told(EIGHT.repeat(6)), 1, 0, made -> made.stile(50, false) ? 1 : 0);
    }

    private void send() {
        edges.promise(12);
        edges.says("SENT (place NONE: nowhere): to where one was (NONE).");
        MarginWays x = base();
        edges.same("was sent nowhere", x.send(2, 20), NONE);
        edges.same("was sent to 20", x.send(2, 3), 20);
        edges.same("was sent to 3", x.send(2, NONE), 3);
        edges.same("nowhere", x.person(2, 2), NONE);
        edges.same("the text's", x.send(0, 0), 13);
        edges.same("to where one is", x.person(0, 2), 0);
        edges.same("0 far", x.person(0, 4), 0);
        edges.same("to ink, too", x.send(0, 11), 0);
        edges.same("who is sent", x.count(6), 3);
        edges.says("-2 (STATUS 1): it is so already.");
        edges.refused("to the same place", EdgeOfState::base, 1, -2, made -> made.send(0, 13));
        edges.refused("to where one was sent by send()", () -> x, 1, -2, made -> made.send(0, 11));
        edges.refused("nowhere", EdgeOfState::base, 1, -2, made -> made.send(2, NONE));
        edges.noSuch("a place that isn't there", EdgeOfState::base, made -> made.send(0, -2));
        edges.noSuch("a place that isn't there", EdgeOfState::base, made -> made.send(0, 5));
        edges.noSuch("nobody, nowhere", EdgeOfState::base, made -> made.send(3, NONE));
    }

    private void let() {
        edges.promise(13);
        edges.says("LET DOWN: where one was.");
        MarginWays x = base();
        edges.same("from 0", x.let(0, 21), 0);
        edges.same("from 21", x.let(0, 13), 21);
        edges.same("to where another one is", x.person(0, 5), 1);
        edges.same("sent as ever", x.person(0, 2), 13);
        x.type(13, 5);
        edges.same("off ink", x.let(0, 4), 13);
        edges.says("NONE (STATUS 1): it isn't white, one is there.");
        edges.refused("it isn't white", EdgeOfState::base, 1, NONE, made -> made.let(0, 3));
        edges.refused("one is there", EdgeOfState::base, 1, NONE, made -> made.let(0, 0));
        edges.refused("it isn't white, another one is there", () -> x, 1, NONE, made -> made.let(0, 13));
        edges.refused("one is there, and it isn't white", () -> x, 1, NONE, made -> made.let(2, 13));
        edges.noSuch("nowhere", EdgeOfState::base, made -> made.let(0, NONE));
        edges.noSuch("nobody", EdgeOfState::base, made -> made.let(3, 0));
    }

    private void undo() {
        edges.promise(14);
        edges.says("The last ACT is UNDONE: how many are left.");
        MarginWays x = base();
        x.days(4);
        x.type(0, 9);
        edges.same("one is left", x.undo(), 1);
        edges.same("the last one", x.ink(0), 0);
        edges.same("not the other one", x.count(2), 4);
        x.see(0, 0, 1);
        edges.same("none is left", x.undo(), 0);
        edges.same("the day", x.count(2), 0);
        edges.same("what is seen is no act", x.count(9), 1);
        x.days(0);
        x.image();
        edges.same("nor what is refused, nor an image", x.count(8), 0);
        edges.says("NONE: there is none.");
        String before = Edges.state(x);
        edges.same("none", x.undo(), NONE);
        edges.same("none again", x.undo(), NONE);
        edges.isTrue("nothing changes, nothing is refused", before.equals(Edges.state(x)));
    }

    private static MarginWays with8() {
        MarginWays x = base();
        for (int i = 0; i < 8; i++) {
            x.see(0, 0, i);
        }
        return x;
    }

    private void see() {
        edges.promise(26);
        edges.says("SEEN: how much is.");
        MarginWays x = base();
        edges.same("1", x.see(0, 0, 0), 1);
        edges.same("the same again", x.see(0, 0, 0), 2);
        edges.same("20", x.see(2, 2, 20), 3);
        edges.same("seen", x.count(9), 3);
        edges.says("NONE (STATUS 2): there are 8, not 0 to 20.");
        for (int days : new int[] {-1, 21, Integer.MIN_VALUE, Integer.MAX_VALUE}) {
            edges.refused("see(0, 0, " + days + ")", EdgeOfState::base, 2, NONE, made -> made.see(0, 0, days));
        }
        for (int i = 4; i <= 8; i++) {
            edges.same("see", x.see(1, 1, i), i);
        }
        edges.refused("there are 8", EdgeOfState::with8, 2, NONE, made -> made.see(0, 0, 0));
        edges.refused("both", EdgeOfState::with8, 2, NONE, made -> made.see(0, 0, 21));
        edges.says("NoSuchElementException (ahead): no such PERSON, DEED.");
        edges.noSuch("nobody, though there are 8", EdgeOfState::with8, made -> made.see(3, 0, 0));
        edges.noSuch("no deed, though there are 8", EdgeOfState::with8, made -> made.see(0, 3, 0));
        x.forget();
        edges.noSuch("nobody", EdgeOfState::base, made -> made.see(3, 0, 0));
        edges.noSuch("nobody", EdgeOfState::base, made -> made.see(-1, 0, 21));
        edges.noSuch("no deed", EdgeOfState::base, made -> made.see(0, 3, -1));
        edges.noSuch("no deed", EdgeOfState::base, made -> made.see(0, -1, 0));
        edges.promise(27);
        edges.says("All that is SEEN is forgotten.");
        x.see(0, 2, 0);
        edges.same("not so", x.quick(2), 0);
        int status = x.count(13);
        x.forget();
        edges.same("none", x.count(9), 0);
        edges.same("so", x.quick(2), 1);
        edges.same("status stays", x.count(13), status);
        x.forget();
        edges.same("none again", x.count(9), 0);
        edges.same("from 1 on", x.see(0, 0, 0), 1);
    }

    private void image() {
        edges.promise(37);
        edges.says("The DAY, INK, STILES, where all are, to where they are SENT, MET, ACTS and what is SEEN are kept as an image,");
        MarginWays x = base();
        x.days(3);
        x.type(4, 6);
        x.stile(0, true);
        x.send(2, 20);
        x.let(2, 12);
        x.see(0, 0, 5);
        String before = Edges.state(x);
        x.image();
        x.days(9);
        x.type(4, 0);
        x.type(0, 8);
        x.stile(0, false);
        x.stile(2, false);
        x.send(2, 0);
        x.let(2, 10);
        x.see(1, 1, 3);
        for (int i = 0; i < 2; i++) {
            edges.isTrue("restore", x.restore());
            edges.isTrue("all is as it was", before.equals(Edges.state(x)));
            for (int left = 4; left >= 0; left--) {
                edges.same("its acts", x.undo(), left);
            }
            x.forget();
        }
        edges.asks("nothing but the image", EdgeOfState::with8, made -> {
            made.image();
            return 0;
        });
        // what is SEEN, as it was: who, where, when
        MarginWays seen = Check.told("deed 0;deed 0;stile 0 0;person 0 0 1 to 1 0;person 0 0 0;");
        seen.see(0, 0, 0);
        seen.image();
        int[][] others = {{0, 1, 0}, {0, 0, 1}, {1, 1, 0}};
        for (int[] other : others) {
            seen.forget();
            seen.see(other[0], other[1], other[2]);
            edges.same("not so", seen.quick(2), 0);
            seen.restore();
            edges.same("so again", seen.quick(2), 1);
        }
        seen.forget();
        seen.see(1, 1, 0);
        seen.image();
        seen.forget();
        seen.see(0, 1, 1);
        edges.same("so", seen.quick(2), 1);
        seen.restore();
        edges.same("not so again", seen.quick(2), 0);
        seen.forget();
        seen.see(0, 0, 1);
        seen.image();
        seen.forget();
        seen.see(1, 0, 1);
        edges.same("so", seen.quick(2), 1);
        seen.restore();
        edges.same("not so again: another one", seen.quick(2), 0);
        edges.says("in place of another one.");
        x.image();
        x.days(1);
        x.image();
        x.days(1);
        edges.isTrue("restore", x.restore());
        edges.same("the second one", x.count(2), 1);
    }

    private void restore() {
        edges.promise(38);
        edges.says("They are as the image again: true.");
        MarginWays x = base();
        x.image();
        x.days(20);
        edges.isTrue("restore", x.restore());
        edges.same("the day", x.count(2), 0);
        edges.same("acts", x.count(8), 0);
        edges.isTrue("as often as one likes", x.restore());
        // what isn't kept in an image stays: STATUS, the tape, fault()
        x.days(0);
        x.see(0, 0, 21);
        Check.cellar(x, "deed");
        Check.feed(x, "deed 0;");
        x.restore();
        edges.same("status 0", x.count(11), 1);
        edges.same("status 1", x.count(12), 1);
        edges.same("status 2", x.count(13), 1);
        edges.same("the tape", x.count(10), 20);
        edges.same("fault()", x.fault(), 4);
        // an image of 40 acts, of which the oldest are gone; acts made and undone meanwhile leave it
        MarginWays y = Check.told("deed 0 0;");
        for (int i = 1; i <= 55; i++) {
            y.type(0, i % 10);
        }
        y.image();
        for (int i = 0; i < 30; i++) {
            y.undo();
        }
        for (int i = 0; i < 60; i++) {
            y.type(1, 1 + i % 9);
        }
        edges.isTrue("restore", y.restore());
        edges.same("acts", y.count(8), 40);
        for (int left = 39; left >= 0; left--) {
            edges.same("undo", y.undo(), left);
            edges.same("one act less", y.ink(0), (left + 15) % 10);
            edges.same("none of those made meanwhile", y.ink(1), 0);
        }
        edges.same("none is left", y.undo(), NONE);
        edges.says("False: there is none.");
        MarginWays z = base();
        z.days(1);
        String before = Edges.state(z);
        edges.isFalse("none yet", z.restore());
        edges.isTrue("nothing changes", before.equals(Edges.state(z)));
        z.image();
        edges.same("a text with a fault", Check.cellar(z, "x"), 1);
        edges.isTrue("leaves it", z.restore());
        edges.same("a text without", Check.cellar(z, "deed 0;"), 0);
        edges.isFalse("takes it", z.restore());
    }
}
