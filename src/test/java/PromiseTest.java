/** Each promise by hand: ordinary inputs, the edges that the document names, wrong inputs. */
public final class PromiseTest {
    private static final Check CHECK = new Check();
    private static final int NONE = MarginWays.NONE;

    /** Deed 0: a wall at 3; deed 1: a wall at 1; deed 2 is white. One walks round, one waits, one stands. */
    private static final String BASE = "deed 0 0 0 3 0;deed 0 2 0 0;deed 0 0;stile 0 2;stile 1 0;"
        + "person 0 0 2 to 1 3;person 1 0 1 to 0 4;person 1 3 3;";
    /** A square of 2 by 2 places. */
    private static final String SQUARE = "deed 0 0;deed 0 0;stile 0 0;stile 0 1;";

    private PromiseTest() {
    }

    private static MarginWays base() {
        return Check.told(BASE);
    }

    public static void main(String[] args) {
        promise1();
        promise2();
        promise3and4();
        promise5();
        promise6();
        promise7and8();
        promise9();
        promise10();
        promise11();
        promise12();
        promise13();
        promise14();
        promise15();
        promise16and17();
        promise18and19();
        promise20();
        promise21and22();
        promise23();
        promise24and25();
        promise26and27();
        promise28and29();
        promise30();
        promise31();
        promise32();
        promise33();
        promise34and35();
        snake();
        promise36();
        promise37and38();
        rules();
        CHECK.end("PromiseTest");
    }

    private static void promise1() {
        MarginWays x = new MarginWays();
        CHECK.same("NONE", NONE, -1);
        for (int what = 0; what < 14; what++) {
            CHECK.same("new: count(" + what + ")", x.count(what), 0);
        }
        CHECK.same("new: fault", x.fault(), NONE);
        CHECK.noSuch("new: deed", () -> x.deed(0, 0));
        CHECK.noSuch("new: person", () -> x.person(0, 0));
        CHECK.noSuch("new: ink", () -> x.ink(0));
        CHECK.same("new: undo", x.undo(), NONE);
        CHECK.isFalse("new: restore", x.restore());
        CHECK.same("new: thickest", x.ahead(60, 1), NONE);
        CHECK.same("new: lonely", x.ahead(60, 0), 0);
        CHECK.same("new: gather", x.gather(0), NONE);
        CHECK.same("new: crowd", x.later(60, 0), 0);
    }

    private static void promise2() {
        MarginWays x = new MarginWays();
        for (int i = 1; i <= 35; i++) {
            CHECK.same("feed " + i, x.feed(-1, 0, Integer.MIN_VALUE, 7, 32), 20 * i);
        }
        CHECK.same("feed beyond 700", x.feed(0, 0, 0, 0, 0), NONE);
        CHECK.same("bytes", x.count(10), 700);
        // the highest byte first
        MarginWays y = new MarginWays();
        y.feed('d' << 24 | 'e' << 16 | 'e' << 8 | 'd', ' ' << 24 | '4' << 16 | ' ' << 8 | '0', ';' << 24, 0, 0);
        CHECK.same("cellar(9)", y.cellar(9), 0);
        CHECK.same("ink(0)", y.ink(0), 4);
        CHECK.same("ink(1)", y.ink(1), 0);
    }

    private static void promise3and4() {
        MarginWays x = base();
        Check.feed(x, "deed 1;deed 2;      ");
        CHECK.illegal("more than there are", () -> x.cellar(21));
        CHECK.illegal("below 0", () -> x.cellar(-1));
        CHECK.same("nothing changes", x.count(10), 20);
        CHECK.same("no text refused", x.count(11), 0);
        x.days(3);
        x.see(0, 0, 0);
        x.image();
        CHECK.same("the first bytes alone", x.cellar(7), 0);
        CHECK.same("deeds", x.count(0), 1);
        CHECK.same("people", x.count(1), 0);
        CHECK.same("the day", x.count(2), 0);
        CHECK.same("acts", x.count(8), 0);
        CHECK.same("seen", x.count(9), 0);
        CHECK.same("the tape", x.count(10), 0);
        CHECK.isFalse("the image", x.restore());
        Check.feed(x, "deed 0;x");
        CHECK.same("a fault", x.cellar(8), 1);
        CHECK.same("its place", x.fault(), 7);
        CHECK.illegal("the tape is empty with a fault, too", () -> x.cellar(1));
        CHECK.same("the place stays", x.fault(), 7);
        CHECK.same("refused", x.count(11), 1);
        CHECK.same("an empty text", x.cellar(0), 0);
        CHECK.same("no deeds", x.count(0), 0);
        CHECK.same("no fault", x.fault(), NONE);
    }

    private static void promise5() {
        MarginWays x = base();
        int[] due = {3, 3, 0, 3, 2, 2, 3, 0, 0, 0, 0, 0, 0, 0};
        for (int what = 0; what < due.length; what++) {
            CHECK.same("count(" + what + ")", x.count(what), due[what]);
        }
        CHECK.noSuch("count(14)", () -> x.count(14));
        CHECK.noSuch("count(-1)", () -> x.count(-1));
        x.days(5);
        CHECK.same("day", x.count(2), 5);
        CHECK.same("one has come", x.count(6), 2);
        // from the second day on two stand together: 4 days by 2
        CHECK.same("met", x.count(7), 8);
        CHECK.same("acts", x.count(8), 1);
        Check.feed(x, " ");
        CHECK.same("bytes", x.count(10), 20);
        CHECK.same("parts of a square", Check.told(SQUARE).count(3), 1);
        CHECK.same("parts without stiles", Check.told("deed 0 0;deed 0 9 0;deed 9;").count(3), 3);
    }

    private static void promise6() {
        MarginWays x = base();
        int[][] due = {{5, 23, 4, 3, 1}, {4, 13, 1, 2, 6}, {2, 3, 0, 0, 0}};
        for (int deed = 0; deed < 3; deed++) {
            for (int what = 0; what < 5; what++) {
                CHECK.same("deed(" + deed + ", " + what + ")", x.deed(deed, what), due[deed][what]);
            }
        }
        CHECK.noSuch("deed(3, 0)", () -> x.deed(3, 0));
        CHECK.noSuch("deed(-1, 0)", () -> x.deed(-1, 0));
        CHECK.noSuch("deed(0, 5)", () -> x.deed(0, 5));
        CHECK.noSuch("deed(0, -1)", () -> x.deed(0, -1));
    }

    private static void promise7and8() {
        MarginWays x = base();
        int[][] due = {{0, 2, 13, 0, 4, 0}, {10, 1, 4, 0, NONE, 0}, {13, 3, NONE, 0, NONE, 0}};
        for (int person = 0; person < 3; person++) {
            for (int what = 0; what < 6; what++) {
                CHECK.same("person(" + person + ", " + what + ")", x.person(person, what), due[person][what]);
            }
        }
        x.let(0, 13);
        CHECK.same("others", x.person(2, 5), 1);
        CHECK.same("far to where one is", x.person(0, 4), 0);
        CHECK.noSuch("person(3, 0)", () -> x.person(3, 0));
        CHECK.noSuch("person(-1, 0)", () -> x.person(-1, 0));
        CHECK.noSuch("person(0, 6)", () -> x.person(0, 6));
        CHECK.noSuch("person(0, -1)", () -> x.person(0, -1));
        CHECK.same("ink(3)", x.ink(3), 3);
        CHECK.same("ink(11)", x.ink(11), 2);
        CHECK.same("ink(21)", x.ink(21), 0);
        for (int place : new int[] {-1, 5, 8, 9, 14, 22, 30, 100, Integer.MIN_VALUE, Integer.MAX_VALUE}) {
            CHECK.noSuch("ink(" + place + ")", () -> x.ink(place));
        }
    }

    private static void promise9() {
        MarginWays x = base();
        CHECK.same("days(0)", x.days(0), NONE);
        CHECK.same("days(21)", x.days(21), NONE);
        CHECK.same("days(-5)", x.days(-5), NONE);
        CHECK.same("days of most", x.days(Integer.MAX_VALUE), NONE);
        CHECK.same("refused", x.count(12), 4);
        CHECK.same("days(20)", x.days(20), 20);
        CHECK.same("ink has faded", x.count(5), 0);
        MarginWays y = Check.told("deed 0;person 0 0 1;person 0 0 1;");
        for (int i = 0; i < 499; i++) {
            y.days(20);
        }
        CHECK.same("up to 9999", y.days(20), NONE);
        CHECK.same("to 9999", y.days(19), 9999);
        CHECK.same("beyond 9999", y.days(1), NONE);
        CHECK.same("met is 9999 at most", y.person(0, 3), 9999);
        CHECK.same("met behind more days", y.then(0, 60, 2), 9999);
        CHECK.same("one meets all the same", y.ahead(1, 0), 0);
        // both give way to the wall: the least deed, then the least place
        MarginWays z = Check.told(SQUARE + "person 0 0 1 to 1 1;person 1 1 1 to 0 0;");
        z.days(1);
        CHECK.same("down rather than across", z.person(0, 0), 1);
        CHECK.same("the lesser deed", z.person(1, 0), 1);
        CHECK.same("they meet", z.person(0, 3), 1);
        // on ink one stands, but does not step
        MarginWays v = Check.told("deed 5 0;person 0 0 3 to 0 1;person 0 1 3 to 0 0;person 0 0 0 to 0 0;");
        v.days(1);
        CHECK.same("from ink", v.person(0, 0), 1);
        CHECK.same("not onto ink", v.person(1, 0), 1);
        CHECK.same("still sent", v.person(1, 2), 0);
        CHECK.same("there without a step", v.person(2, 2), NONE);
    }

    private static void promise10() {
        MarginWays x = base();
        CHECK.same("type(3, 0)", x.type(3, 0), 3);
        CHECK.same("type(3, 9)", x.type(3, 9), 0);
        CHECK.same("type(3, 10)", x.type(3, 10), NONE);
        CHECK.same("type(3, -1)", x.type(3, -1), NONE);
        CHECK.same("refused", x.count(12), 2);
        CHECK.same("acts", x.count(8), 2);
        CHECK.same("ink(3)", x.ink(3), 9);
        CHECK.noSuch("type(5, 0)", () -> x.type(5, 0));
        CHECK.noSuch("type(5, 10)", () -> x.type(5, 10));
        CHECK.same("white places", x.deed(0, 1), 23);
    }

    private static void promise11() {
        MarginWays x = base();
        CHECK.isTrue("set", x.stile(0, true));
        CHECK.isFalse("it is so", x.stile(0, true));
        CHECK.isTrue("taken", x.stile(0, false));
        CHECK.isFalse("it is so", x.stile(0, false));
        CHECK.isFalse("the next one hasn't it", x.stile(4, true));
        CHECK.isFalse("the next one hasn't it", x.stile(4, false));
        CHECK.isFalse("no next one", x.stile(20, true));
        CHECK.same("refused", x.count(12), 5);
        CHECK.isTrue("at ink", x.stile(3, true));
        CHECK.same("stiles", x.deed(0, 2), 12);
        CHECK.noSuch("stile(5)", () -> x.stile(5, true) ? 1 : 0);
        CHECK.noSuch("stile(-1)", () -> x.stile(-1, false) ? 1 : 0);
        MarginWays y = Check.told("deed 0 0 0 0 0 0 0 0;deed 0 0 0 0 0 0 0 0;");
        CHECK.same("the last place is not beside the next deed's first", y.way(7, 10, 0), NONE);
        y.stile(7, true);
        CHECK.same("over the last place", y.way(0, 10, 0), 15);
    }

    private static void promise12() {
        MarginWays x = base();
        CHECK.same("send(2, 0)", x.send(2, 0), NONE);
        CHECK.same("again", x.send(2, 0), -2);
        CHECK.same("elsewhere", x.send(2, 3), 0);
        CHECK.same("nowhere", x.send(2, NONE), 3);
        CHECK.same("nowhere again", x.send(2, NONE), -2);
        CHECK.same("to where one is", x.send(2, 13), NONE);
        CHECK.same("refused", x.count(12), 2);
        CHECK.noSuch("nobody", () -> x.send(3, 0));
        CHECK.noSuch("no place", () -> x.send(0, 5));
        CHECK.noSuch("no place", () -> x.send(0, -2));
        x.days(1);
        CHECK.same("come", x.person(2, 2), NONE);
    }

    private static void promise13() {
        MarginWays x = base();
        CHECK.same("let", x.let(0, 4), 0);
        CHECK.same("there", x.let(0, 4), NONE);
        CHECK.same("ink", x.let(0, 3), NONE);
        CHECK.same("refused", x.count(12), 2);
        CHECK.same("sent as ever", x.person(0, 2), 13);
        CHECK.same("to another one", x.let(0, 13), 4);
        CHECK.noSuch("nobody", () -> x.let(3, 0));
        CHECK.noSuch("no place", () -> x.let(0, -1));
    }

    private static void promise14() {
        MarginWays x = base();
        x.days(7);
        x.type(0, 4);
        x.stile(0, true);
        x.send(1, 0);
        x.let(1, 13);
        for (int left = 4; left >= 0; left--) {
            CHECK.same("undo", x.undo(), left);
        }
        CHECK.same("undo", x.undo(), NONE);
        CHECK.same("not refused", x.count(12), 0);
        int[] due = {3, 3, 0, 3, 2, 2, 3, 0};
        for (int what = 0; what < due.length; what++) {
            CHECK.same("undone: count(" + what + ")", x.count(what), due[what]);
        }
        CHECK.same("undone: where", x.person(1, 0), 10);
        for (int i = 1; i <= 45; i++) {
            x.type(0, i % 10);
        }
        CHECK.same("40 are kept", x.count(8), 40);
        for (int left = 39; left >= 0; left--) {
            CHECK.same("undo", x.undo(), left);
        }
        CHECK.same("as behind the 5th", x.ink(0), 5);
        CHECK.same("undo", x.undo(), NONE);
    }

    private static void promise15() {
        MarginWays x = base();
        CHECK.same("then deed", x.then(0, 2, 0), 1);
        CHECK.same("then place", x.then(0, 2, 1), 3);
        CHECK.same("then met", x.then(0, 60, 2), 59);
        CHECK.same("then sent", x.then(0, 1, 3), 1);
        CHECK.same("then come", x.then(0, 2, 3), 0);
        CHECK.same("then now", x.then(0, 0, 1), 0);
        CHECK.same("nothing changes", x.count(2), 0);
        CHECK.noSuch("nobody", () -> x.then(3, 99, 0));
        CHECK.noSuch("what", () -> x.then(0, 99, 4));
        CHECK.noSuch("what", () -> x.then(0, 0, -1));
        CHECK.illegal("days", () -> x.then(0, 61, 0));
        CHECK.illegal("days", () -> x.then(0, -1, 0));
    }

    private static void promise16and17() {
        MarginWays x = base();
        CHECK.same("comes(0)", x.comes(0), 2);
        // the second wall is gone behind 15 days, then it is 5 steps
        CHECK.same("comes(1)", x.comes(1), 20);
        CHECK.same("comes(2)", x.comes(2), NONE);
        CHECK.noSuch("comes(3)", () -> x.comes(3));
        x.let(0, 13);
        CHECK.same("who is there comes on the first day", x.comes(0), 1);
        CHECK.same("never", Check.told("deed 0 0;person 0 0 0 to 0 1;").comes(0), NONE);
        String edge = "deed 0 0;person 0 0 1 to 0 1;person 0 1 0;goes ";
        CHECK.same("comes on the 60th", Check.told(edge + "day=59;").comes(0), 60);
        CHECK.same("not on the 61st", Check.told(edge + "day=60;").comes(0), NONE);
        CHECK.same("meets on the 60th", Check.told(edge + "day=59;").meet(0, 1), 60);
        CHECK.same("not on the 61st", Check.told(edge + "day=60;").meet(1, 0), NONE);
        MarginWays y = base();
        CHECK.same("meet(0, 2)", y.meet(0, 2), 2);
        CHECK.same("meet(2, 0)", y.meet(2, 0), 2);
        CHECK.same("meet(1, 1)", y.meet(1, 1), NONE);
        CHECK.same("never", y.meet(0, 1), NONE);
        CHECK.noSuch("meet(0, 3)", () -> y.meet(0, 3));
        CHECK.noSuch("meet(3, 3)", () -> y.meet(3, 3));
        y.let(0, 13);
        CHECK.same("now", y.meet(0, 2), 0);
    }

    private static void promise18and19() {
        MarginWays x = base();
        CHECK.same("crowd now", x.later(0, 0), 1);
        CHECK.same("the least place", x.later(0, 1), 0);
        CHECK.same("crowd then", x.later(2, 0), 2);
        CHECK.same("its place", x.later(2, 1), 13);
        CHECK.same("inked", x.later(9, 2), 2);
        CHECK.same("inked", x.later(10, 2), 1);
        CHECK.same("inked", x.later(60, 2), 0);
        CHECK.noSuch("what", () -> x.later(99, 3));
        CHECK.illegal("days", () -> x.later(61, 0));
        CHECK.illegal("days", () -> x.later(-1, 0));
        CHECK.same("nobody", Check.told("deed 0;").later(0, 1), NONE);
        CHECK.same("clear now", x.clear(0), 0);
        CHECK.same("clear(3)", x.clear(3), 15);
        CHECK.same("clear(11)", x.clear(11), 10);
        CHECK.noSuch("clear(5)", () -> x.clear(5));
        CHECK.same("never", Check.told("deed 1;fades 0;").clear(0), NONE);
        CHECK.same("when one has gone", Check.told("deed 0 0 1;person 0 0 2 to 0 1;person 0 2 1 to 0 1;fades day and with=0;").clear(2), 2);
        CHECK.same("the 60th", Check.told("deed 1;fades day=59;").clear(0), 60);
        CHECK.same("the 61st", Check.told("deed 1;fades day=60;").clear(0), NONE);
    }

    private static void promise20() {
        MarginWays x = base();
        CHECK.same("far", x.way(0, 13, 0), 4);
        CHECK.same("first step", x.way(0, 13, 1), 1);
        CHECK.same("to clear", x.way(0, 13, 2), 0);
        CHECK.same("needed", x.way(0, 13, 3), 3);
        CHECK.same("no way", x.way(10, 4, 0), NONE);
        CHECK.same("no step", x.way(10, 4, 1), NONE);
        CHECK.same("two to clear", x.way(10, 4, 2), 2);
        CHECK.same("none needed", x.way(10, 4, 3), 0);
        CHECK.same("to itself", x.way(0, 0, 0), 0);
        CHECK.same("no step to itself", x.way(0, 0, 1), NONE);
        CHECK.same("ink to itself", x.way(3, 3, 0), 0);
        CHECK.same("ink to itself", x.way(3, 3, 2), 0);
        CHECK.same("onto ink", x.way(2, 3, 0), NONE);
        CHECK.same("onto ink", x.way(2, 3, 2), 1);
        CHECK.same("from ink", x.way(3, 2, 0), 1);
        CHECK.same("from ink", x.way(3, 2, 2), 0);
        CHECK.noSuch("no place", () -> x.way(5, 0, 0));
        CHECK.noSuch("no place", () -> x.way(0, 5, 0));
        CHECK.noSuch("what", () -> x.way(0, 0, 4));
        CHECK.noSuch("what", () -> x.way(0, 0, -1));
        MarginWays y = Check.told(SQUARE + "deed 0;");
        CHECK.same("by either", y.way(0, 11, 3), 0);
        CHECK.same("the least first", y.way(0, 11, 1), 1);
        CHECK.same("the lesser deed first", y.way(11, 0, 1), 1);
        CHECK.same("by none", y.way(0, 20, 2), NONE);
    }

    private static void promise21and22() {
        MarginWays x = base();
        CHECK.same("reached", x.reached(0, 0), 7);
        CHECK.same("reached", x.reached(0, 1), 12);
        CHECK.same("reached", x.reached(0, 2), 0);
        CHECK.same("from ink, itself too", x.reached(3, 0), 31);
        CHECK.noSuch("no place", () -> x.reached(5, 0));
        CHECK.noSuch("no deed", () -> x.reached(0, 3));
        CHECK.same("farthest", x.farthest(0, 0), 13);
        CHECK.same("farthest", x.farthest(0, 1), 4);
        CHECK.same("itself", x.farthest(4, 0), 4);
        CHECK.same("itself", x.farthest(4, 1), 0);
        CHECK.same("the least of like ones", x.farthest(1, 0), 13);
        CHECK.same("the least of like ones", x.farthest(2, 0), 0);
        CHECK.noSuch("no place", () -> x.farthest(-1, 0));
        CHECK.noSuch("what", () -> x.farthest(0, 2));
    }

    private static void promise23() {
        MarginWays x = base();
        CHECK.same("gather", x.gather(0), 0);
        CHECK.same("gather", x.gather(1), 4);
        CHECK.noSuch("what", () -> x.gather(2));
        CHECK.noSuch("what", () -> x.gather(-1));
        CHECK.same("nobody", Check.told("deed 0;").gather(0), NONE);
        CHECK.same("nobody", Check.told("deed 0;").gather(1), NONE);
        MarginWays y = Check.told("deed 0 0 0 0 0;person 0 0 1;person 0 4 1;person 0 3 1;");
        CHECK.same("in the middle", y.gather(0), 3);
        CHECK.same("in the middle", y.gather(1), 4);
        MarginWays z = Check.told("deed 9 9;person 0 1 1;");
        CHECK.same("on ink", z.gather(0), 1);
        CHECK.same("on ink", z.gather(1), 0);
    }

    private static void promise24and25() {
        MarginWays x = base();
        CHECK.same("how many", x.errands(0), 1);
        CHECK.same("how far", x.errands(1), 0);
        CHECK.same("none", x.errand(0), NONE);
        CHECK.same("whose", x.errand(2), 0);
        CHECK.noSuch("what", () -> x.errands(2));
        CHECK.noSuch("nobody", () -> x.errand(3));
        // the nearest one for 0 is 4's, but as many as can go
        MarginWays y = Check.told("deed 0 0 0 0 0;deed 0;person 0 0 1 to 0 4;person 0 4 1 to 0 0;person 1 0 1 to 0 0;");
        CHECK.same("each by the other's", y.errands(0), 2);
        CHECK.same("not far", y.errands(1), 0);
        CHECK.same("the first row", y.errand(0), 1);
        CHECK.same("the first row", y.errand(1), 0);
        CHECK.same("the first row", y.errand(2), NONE);
        // alike: the first row by people, none behind all
        MarginWays z = Check.told("deed 0;person 0 0 1;person 0 0 1 to 0 0;person 0 0 1;");
        CHECK.same("the first one takes it", z.errand(0), 1);
        CHECK.same("none is left", z.errand(1), NONE);
        CHECK.same("nobody", Check.told("deed 0;").errands(0), 0);
    }

    private static void promise26and27() {
        MarginWays x = base();
        for (int i = 1; i <= 8; i++) {
            CHECK.same("see", x.see(0, 0, i == 1 ? 20 : 0), i);
        }
        CHECK.same("there are 8", x.see(0, 0, 0), NONE);
        CHECK.noSuch("nobody", () -> x.see(3, 0, 0));
        CHECK.noSuch("no deed", () -> x.see(0, 3, 0));
        x.forget();
        CHECK.same("forgotten", x.count(9), 0);
        CHECK.same("days", x.see(0, 0, 21), NONE);
        CHECK.same("days", x.see(0, 0, -1), NONE);
        CHECK.noSuch("nobody ahead", () -> x.see(-1, 0, 21));
        CHECK.same("refused", x.count(13), 3);
        CHECK.same("see", x.see(2, 2, 0), 1);
    }

    private static void promise28and29() {
        MarginWays x = base();
        CHECK.same("nothing seen", x.quick(0), 27);
        CHECK.same("nothing seen", x.quick(1), 0);
        CHECK.same("nothing seen", x.quick(2), 1);
        x.see(0, 1, 1);
        CHECK.same("3 steps at least", x.quick(0), 7);
        CHECK.same("the first", x.quick(1), 3);
        CHECK.same("not as it is", x.quick(2), 0);
        CHECK.same("all are at one place", x.look(0), 0);
        CHECK.same("all are at one place", x.look(1), 1);
        x.see(0, 0, 1);
        CHECK.same("never both", x.quick(0), 0);
        CHECK.same("never both", x.quick(1), NONE);
        CHECK.same("none", x.look(0), NONE);
        CHECK.same("none", x.look(1), 0);
        CHECK.noSuch("what", () -> x.quick(3));
        CHECK.noSuch("what", () -> x.quick(-1));
        CHECK.noSuch("what", () -> x.look(2));
        // 0 may be slower or quicker by all: 9 paces, and as it is by another's
        MarginWays w = Check.told("deed 0 0 0;person 0 0 0 to 0 2;goes pace=9 or pace=0;");
        CHECK.same("the pace of 9, too", w.look(1), 2);
        CHECK.same("the pace of 9, too", w.quick(0), 9);
        MarginWays y = Check.told("deed 0 0 0 0 0 0 0 0;deed 0;person 1 0 1;person 0 0 1 to 0 7;");
        CHECK.same("who walks", y.look(0), 1);
        // pace 0: 0; 1 (another's): 4; 2 and more: 7
        CHECK.same("where", y.look(1), 3);
    }

    private static void promise30() {
        MarginWays x = base();
        CHECK.same("two days of two", x.candles(0, 2, 5), 25);
        CHECK.same("two days of three", x.candles(0, 3, 5), 500);
        CHECK.same("sure", x.candles(0, 5, 0), 100000);
        CHECK.same("never", x.candles(0, 5, 10), 0);
        CHECK.same("one that isn't sent", x.candles(2, 3, 3), 1000);
        CHECK.same("no way", x.candles(1, 5, 0), 0);
        x.let(0, 13);
        CHECK.same("one that stands there", x.candles(0, 1, 10), 10);
        CHECK.noSuch("nobody", () -> x.candles(3, 9, 9));
        CHECK.illegal("days", () -> x.candles(0, 0, 5));
        CHECK.illegal("days", () -> x.candles(0, 6, 5));
        CHECK.illegal("tenths", () -> x.candles(0, 1, -1));
        CHECK.illegal("tenths", () -> x.candles(0, 1, 11));
    }

    private static void promise31() {
        MarginWays x = base();
        CHECK.same("couples", x.game(0, 1, 0), 2);
        CHECK.same("the first", x.game(0, 1, 1), 0);
        CHECK.same("one isn't sent", x.game(0, 2, 0), NONE);
        CHECK.same("one isn't sent", x.game(2, 0, 1), NONE);
        CHECK.illegal("both are one", () -> x.game(0, 0, 0));
        CHECK.illegal("both are one, not sent", () -> x.game(2, 2, 0));
        CHECK.noSuch("what ahead", () -> x.game(0, 0, 2));
        CHECK.noSuch("nobody", () -> x.game(3, 0, 0));
        CHECK.noSuch("nobody", () -> x.game(0, 3, 0));
        // together they gain 12 each by staying; who goes gains 5; both go their ways: 5 each
        MarginWays y = Check.told("deed 0 0 0;person 0 1 1 to 0 0;person 0 1 1 to 0 2;");
        CHECK.same("both go, or both stay", y.game(0, 1, 0), 2);
        CHECK.same("both go", y.game(0, 1, 1), 0);
        // who stays meets 6; who goes comes on the third day, meets 4 and gains 5: 13, more than 12
        String alone = "deed 0 0;person 1 0 1 to 1 1;";
        MarginWays u = Check.told("deed 0 0 0 0 0 0 0;" + alone + "person 0 0 1 to 0 3;person 0 0 0;person 0 3 0;");
        CHECK.same("13 for 12", u.game(1, 0, 0), 1);
        CHECK.same("13 for 12", u.game(1, 0, 1), 0);
        // on the fourth day: 11, less than 12
        u.send(1, 4);
        u.let(3, 4);
        CHECK.same("11 for 12", u.game(1, 0, 0), 1);
        CHECK.same("11 for 12", u.game(1, 0, 1), 10);
        CHECK.same("11 for 12", u.game(0, 1, 1), 1);
        // nobody is there to meet; on the sixth day one comes: 5; not on the seventh any more
        u.let(2, 10);
        u.let(3, 10);
        u.send(1, 6);
        CHECK.same("on the sixth day", u.game(1, 0, 0), 1);
        u.type(6, 1);
        CHECK.same("never", u.game(1, 0, 0), 2);
        // one goes to where the other one is: both meet, if one goes and the other one stays
        MarginWays z = Check.told("deed 0 0;person 0 0 1 to 0 1;person 0 1 1 to 0 0;");
        CHECK.same("one goes", z.game(0, 1, 0), 2);
        CHECK.same("the first goes", z.game(0, 1, 1), 1);
    }

    private static void promise32() {
        MarginWays x = base();
        CHECK.same("no days", x.years(5, 0, 0), 0);
        CHECK.same("no days", x.years(5, 0, 1), 0);
        CHECK.same("no days", x.years(5, 0, 2), 2);
        CHECK.noSuch("what", () -> x.years(5, 99, 3));
        CHECK.illegal("n", () -> x.years(5, 61, 0));
        CHECK.illegal("n", () -> x.years(5, -1, 0));
        CHECK.same("nothing to draw", new MarginWays().years(1, 60, 2), 0);
        // seed 0: 12345, bits 16 to 30 are 0: a draw of 5 is 0: sent; one place alone: come each time
        MarginWays y = Check.told("deed 0;person 0 0 1;");
        CHECK.same("sent to where one is", y.years(0, 1, 0), 1);
        // seed 1: 1103527590 >> 16 is 16838: MOD 5 is 3: nothing
        CHECK.same("nothing", y.years(1, 1, 0), 0);
        MarginWays z = Check.told("deed 0;");
        // seed 0 without people: 0, nothing drawn; the next draws are 21468, 9988, 22117, 3498: MOD 5 is 3, 3, 2, 3
        CHECK.same("no people", z.years(0, 5, 2), 0);
        MarginWays v = Check.told("deed 0;person 0 0 1;person 0 0 1;");
        CHECK.same("all have met", v.years(1, 3, 1), 6);
    }

    private static void promise33() {
        MarginWays x = base();
        CHECK.same("lonely", x.ahead(5, 0), 2);
        CHECK.same("lonely", x.ahead(1, 0), 7);
        CHECK.same("lonely", x.ahead(0, 0), 7);
        CHECK.same("thickest", x.ahead(0, 1), 3);
        CHECK.same("thickest", x.ahead(14, 1), 3);
        CHECK.same("all white", x.ahead(15, 1), NONE);
        CHECK.noSuch("what", () -> x.ahead(99, 2));
        CHECK.illegal("days", () -> x.ahead(61, 0));
        CHECK.illegal("days", () -> x.ahead(-1, 1));
        CHECK.same("the least of like ones", Check.told("deed 1 4;deed 4 2;").ahead(0, 1), 1);
    }

    private static void promise34and35() {
        MarginWays x = base();
        CHECK.same("one way", x.ways(0, 13), 1);
        CHECK.same("to itself", x.ways(3, 3), 1);
        CHECK.same("no way", x.ways(10, 4), 0);
        CHECK.same("onto ink", x.ways(2, 3), 0);
        CHECK.noSuch("no place", () -> x.ways(5, 0));
        CHECK.noSuch("no place", () -> x.ways(0, 5));
        CHECK.same("two ways", Check.told(SQUARE).ways(0, 11), 2);
        MarginWays y = grid();
        CHECK.same("many ways", y.ways(0, 57), 792);
        y.type(11, 1);
        CHECK.same("less by those over one place", y.ways(0, 57), 792 - 2 * 210);
        CHECK.same("near(0)", x.near(0), 2);
        CHECK.same("near(1)", x.near(1), NONE);
        CHECK.same("near(2)", x.near(2), 0);
        CHECK.noSuch("near(3)", () -> x.near(3));
        MarginWays z = Check.told("deed 9 0 0;person 0 1 1;person 0 0 1;person 0 2 1;person 0 0 1;");
        CHECK.same("not onto ink", z.near(0), 2);
        CHECK.same("at one place with ink", z.near(1), 3);
        CHECK.same("the least of like ones", z.near(2), 0);
    }

    /** All 48 places in one row. */
    private static void snake() {
        StringBuilder text = new StringBuilder();
        for (int deed = 0; deed < 6; deed++) {
            text.append("deed 0 0 0 0 0 0 0 0;");
        }
        text.append("stile 0 7;stile 1 0;stile 2 7;stile 3 0;stile 4 7;person 0 0 9 to 5 0;person 5 0 1 to 0 0;");
        MarginWays x = Check.told(text.toString());
        CHECK.same("from end to end", x.way(0, 50, 0), 47);
        CHECK.same("from end to end", x.way(50, 0, 0), 47);
        CHECK.same("all are needed", x.way(0, 50, 3), 46);
        CHECK.same("one way", x.ways(0, 50), 1);
        CHECK.same("one part", x.count(3), 1);
        CHECK.same("farthest", x.farthest(0, 0), 50);
        CHECK.same("farthest", x.farthest(0, 1), 47);
        CHECK.same("comes", x.comes(0), 6);
        CHECK.same("comes", x.comes(1), 47);
        CHECK.same("each other's errand", x.errands(1), 0);
        CHECK.same("all the same", x.gather(0), 0);
        CHECK.same("all the same", x.gather(1), 47);
        for (int deed = 0; deed < 6; deed++) {
            for (int place = 0; place < 8; place++) {
                x.type(10 * deed + place, 1);
            }
        }
        CHECK.same("all but the first", x.way(0, 50, 2), 47);
        CHECK.same("no parts", x.count(3), 0);
        CHECK.same("where one stands", x.gather(0), 0);
        CHECK.same("where one stands", x.gather(1), 0);
    }

    private static MarginWays grid() {
        StringBuilder text = new StringBuilder();
        for (int deed = 0; deed < 6; deed++) {
            text.append("deed 0 0 0 0 0 0 0 0;");
        }
        MarginWays x = Check.told(text.toString());
        for (int deed = 0; deed < 5; deed++) {
            for (int place = 0; place < 8; place++) {
                CHECK.isTrue("stile", x.stile(10 * deed + place, true));
            }
        }
        return x;
    }

    private static void promise36() {
        MarginWays x = base();
        CHECK.same("gone", x.gone(0, 1), 2);
        CHECK.same("gone", x.gone(0, 5), 4);
        CHECK.same("gone", x.gone(1, 15), 0);
        CHECK.same("gone", x.gone(1, 20), 5);
        CHECK.same("gone", x.gone(2, 60), 0);
        CHECK.same("gone", x.gone(0, 0), 0);
        CHECK.noSuch("nobody", () -> x.gone(3, 99));
        CHECK.illegal("days", () -> x.gone(0, 61));
        CHECK.illegal("days", () -> x.gone(0, -1));
    }

    private static void promise37and38() {
        MarginWays x = base();
        x.type(0, 3);
        x.see(0, 0, 4);
        x.stile(0, true);
        x.image();
        x.days(9);
        x.undo();
        x.undo();
        x.send(2, 0);
        x.let(2, 12);
        x.forget();
        x.days(0);
        for (int i = 0; i < 2; i++) {
            CHECK.isTrue("restore", x.restore());
            CHECK.same("the day", x.count(2), 0);
            CHECK.same("ink", x.ink(0), 3);
            CHECK.same("stiles", x.count(4), 3);
            CHECK.same("where", x.person(2, 0), 13);
            CHECK.same("sent", x.person(2, 2), NONE);
            CHECK.same("acts", x.count(8), 2);
            CHECK.same("seen", x.count(9), 1);
            CHECK.same("status stays", x.count(12), 1);
            CHECK.same("the acts of the image", x.undo(), 1);
            CHECK.same("undone", x.count(4), 2);
            CHECK.same("the acts of the image", x.undo(), 0);
            CHECK.same("undone", x.ink(0), 0);
        }
        x.image();
        x.restore();
        CHECK.same("in place of the other one", x.ink(0), 0);
        // the image's acts are its own
        MarginWays y = base();
        y.type(0, 4);
        y.image();
        y.undo();
        y.type(1, 6);
        y.type(2, 6);
        y.restore();
        CHECK.same("the act of the image", y.undo(), 0);
        CHECK.same("undone", y.ink(0), 0);
        CHECK.same("undone", y.ink(1), 0);
        // and they are the latest 40
        for (int i = 1; i <= 45; i++) {
            y.type(0, i % 10);
        }
        y.image();
        y.undo();
        y.undo();
        y.days(1);
        y.restore();
        CHECK.same("acts", y.count(8), 40);
        for (int left = 39; left >= 0; left--) {
            CHECK.same("undo", y.undo(), left);
            CHECK.same("one act less", y.ink(0), (left + 5) % 10);
        }
    }

    /** One person with a pace of 9 on a way of 8 places: how many steps the rule lets one make on the first day. */
    private static void steps(String goes, int due) {
        MarginWays x = Check.told("deed 0 0 0 0 0 0 0 0;person 0 0 9 to 0 7;person 0 0 0;goes " + goes + ";");
        CHECK.same("steps by: goes " + goes, x.gone(0, 1), due);
    }

    private static void fadesTo(String fades, int due) {
        MarginWays x = Check.told("deed 0 0;deed 0 0 5;person 1 2 0;fades " + fades + ";");
        x.days(1);
        CHECK.same("ink by: fades " + fades, x.ink(12), due);
    }

    private static void rules() {
        steps("1", 7);
        steps("0", 0);
        steps("0-1", 0);
        steps("steps<3", 3);
        steps("4<far", 3);
        steps("with", 1);
        steps("not with", 0);
        steps("pace-steps-5", 4);
        steps("7-2-steps", 5);
        steps("met or day", 0);
        steps("(1<2)=0", 0);
        steps("8/2/2-steps", 2);
        steps("8/(2/2)-4-steps", 4);
        steps("7/0", 0);
        steps("1+2*2-steps", 5);
        steps("not 0 and not steps=2", 2);
        steps("0 and 0 or 1", 7);
        steps("0 and (0 or 1)", 0);
        steps("not 1 < 0", 7);
        steps("9999*9999*9999*9999*9999", 9999 * 9999 * 9999 * 9999 * 9999 > 0 ? 7 : 0);
        steps("(0-7)/2+3", 0);
        steps("(0-7)/2+4", 7);
        steps("2 and 2", 7);
        steps("(2 and 2)-steps", 1);
        steps("(3 or 0)-steps", 1);
        steps("(not not 5)-steps", 1);
        steps("0 or 1 and 1<1+1*(0 or 1 and 1<1+1*(0 or 1 and 1<1+1*(0 or 1 and 1<1+1*(0 or 1 and 1<1+1*(far-3)))))", 4);
        steps("1" + "+1-1".repeat(140) + "-steps", 1);
        steps("not not not not not not ((((steps<3))))", 3);
        fadesTo("1", 4);
        fadesTo("9", 0);
        fadesTo("0-3", 5);
        fadesTo("ink-4", 4);
        fadesTo("place", 3);
        fadesTo("deed", 4);
        fadesTo("with*3", 2);
        fadesTo("day", 5);
        fadesTo("day+2", 3);
        // those ahead have gone; met counts only behind the steps
        MarginWays x = Check.told("deed 0 0 0;person 0 0 1 to 0 1;person 0 1 1 to 0 2;goes with=0;");
        x.days(1);
        CHECK.same("the first one has gone", x.person(0, 0), 1);
        CHECK.same("the other one is with it", x.person(1, 0), 1);
        MarginWays y = Check.told("deed 0 0 0;person 0 0 1 to 0 2;person 0 0 0;goes met;");
        y.days(1);
        CHECK.same("not met yet", y.person(0, 0), 0);
        y.days(1);
        CHECK.same("met on the day before", y.person(0, 0), 1);
        MarginWays z = Check.told("deed 5;deed 0 0;person 1 0 1 to 1 1;fades with;");
        z.days(1);
        CHECK.same("nobody there", z.ink(0), 5);
    }
}
