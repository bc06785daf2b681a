import java.util.List;

/** The document's part 2: STEPS, a DAY, ACTS. */
final class EdgeOfDays {
    private static final int NONE = MarginWays.NONE;
    private static final String EIGHT = "deed 0 0 0 0 0 0 0 0;";

    private final Edges edges;

    EdgeOfDays(Edges edges) {
        this.edges = edges;
    }

    void all() {
        edges.in("==== 2.");
        steps();
        howFar();
        whoGoesOn();
        goes();
        whichStep();
        come();
        met();
        fades();
        acts();
        undone();
    }

    private void steps() {
        edges.says("A STEP is from a PLACE to the one above it or below it in its DEED, or by a STILE to the other DEED,");
        MarginWays x = Check.told("deed 0 0 0;deed 0 0 0;stile 0 1;");
        edges.same("above", x.way(1, 0, 0), 1);
        edges.same("below", x.way(1, 2, 0), 1);
        edges.same("by a stile", x.way(1, 11, 0), 1);
        edges.same("back by a stile", x.way(11, 1, 0), 1);
        edges.same("only where there is one", x.way(0, 10, 0), 3);
        MarginWays y = Check.told(EIGHT.repeat(6));
        for (int deed = 0; deed < 6; deed++) {
            for (int other = 0; other < 6; other++) {
                edges.same("a deed's last place is not beside the next one's first", y.reached(10 * deed + 7, other), deed == other ? 255 : 0);
                edges.same("nor the other way", y.reached(10 * deed, other), deed == other ? 255 : 0);
            }
        }
        edges.says("onto a white PLACE (whatever there is where one stands).");
        MarginWays z = Check.told("deed 0 5 0;deed 9 0 9;stile 0 0;stile 0 1;");
        edges.same("not below onto ink", z.way(0, 1, 0), NONE);
        edges.same("not above onto ink", z.way(2, 1, 0), NONE);
        edges.same("not over ink", z.way(0, 2, 0), NONE);
        edges.same("not by a stile onto ink", z.way(0, 10, 0), NONE);
        edges.same("from ink above", z.way(1, 0, 0), 1);
        edges.same("from ink below", z.way(1, 2, 0), 1);
        edges.same("from ink by a stile", z.way(1, 11, 0), 1);
        edges.same("from ink by a stile to the deed ahead", z.way(10, 0, 0), 1);
        edges.same("not over ink where one doesn't stand", z.way(11, 0, 0), NONE);
        MarginWays v = Check.told("deed 0 5 0;person 0 1 1 to 0 2;person 0 0 9 to 0 2;");
        edges.same("one steps off ink", v.comes(0), 1);
        edges.same("one does not step onto it", v.gone(1, 5), 0);
    }

    private void howFar() {
        edges.says("HOW FAR it is from a PLACE to another one: the fewest STEPS (0 to itself);");
        MarginWays x = Check.told("deed 0 0 0 0;deed 0 0 0 0;stile 0 0;stile 0 3;");
        edges.same("to itself", x.way(2, 2, 0), 0);
        edges.same("the shorter way of two", x.way(1, 13, 0), 3);
        edges.same("the shorter way of two", x.way(1, 12, 0), 4);
        edges.same("not the longer one", x.way(1, 11, 0), 3);
        MarginWays y = Check.told(EIGHT.repeat(6) + "stile 0 7;stile 1 0;stile 2 7;stile 3 0;stile 4 7;");
        edges.same("the farthest that can be", y.way(0, 50, 0), 47);
        edges.same("and back", y.way(50, 0, 0), 47);
        edges.says("none, if there is no way (so to one with INK, but from itself).");
        MarginWays z = Check.told("deed 0 3;deed 0;");
        edges.same("no way", z.way(0, 10, 0), NONE);
        edges.same("to ink", z.way(0, 1, 0), NONE);
        edges.same("from ink to itself", z.way(1, 1, 0), 0);
    }

    private void whoGoesOn() {
        edges.says("A DAY, PERSON by PERSON who is SENT somewhere:");
        MarginWays x = Check.told("deed 0 0 0;person 0 0 1 to 0 1;person 0 1 1 to 0 2;person 0 0 9;goes with=0;");
        x.let(2, 2);
        x.days(1);
        edges.same("the first one goes first", x.person(0, 0), 1);
        edges.same("so the second one is not alone", x.person(1, 0), 1);
        edges.same("who isn't sent stays", x.person(2, 0), 2);
        MarginWays y = Check.told("deed 0 0 0;person 0 1 1 to 0 2;person 0 0 1 to 0 1;goes with=0;");
        y.days(1);
        edges.same("the first one goes first", y.person(0, 0), 2);
        edges.same("so the second one is alone", y.person(1, 0), 1);
        edges.says("as long as one isn't there yet,");
        MarginWays z = Check.told("deed 0 0 0 0;person 0 0 9 to 0 2;");
        edges.same("no step beyond", z.gone(0, 60), 2);
        edges.same("one stops there", z.then(0, 60, 1), 2);
        edges.says("there is a way, one has made fewer STEPS on this DAY than PACE,");
        edges.same("no way, no step nearer", Check.told("deed 0 0 7 0;person 0 0 9 to 0 3;fades 0;").gone(0, 60), 0);
        edges.same("no way onto ink, not even beside it", Check.told("deed 0 0 0 7;person 0 0 9 to 0 3;fades 0;").gone(0, 60), 0);
        edges.same("pace 0", Check.told("deed 0 0;person 0 0 0 to 0 1;").gone(0, 60), 0);
        edges.same("pace 1", Check.told("deed 0 0 0;person 0 0 1 to 0 2;").gone(0, 1), 1);
        MarginWays nine = Check.told(EIGHT.repeat(2) + "stile 0 7;person 0 0 9 to 1 0;");
        edges.same("pace 9", nine.gone(0, 1), 9);
        edges.same("where", 10 * nine.then(0, 1, 0) + nine.then(0, 1, 1), 16);
        edges.same("9 and 6", nine.comes(0), 2);
    }

    private static int steps(String goes) {
        return Check.told("deed 0 0 0 0;person 0 0 9 to 0 3;" + goes).gone(0, 1);
    }

    private void goes() {
        edges.says("and GOES, by what is so at that moment (those ahead have gone, nobody has MET anybody on this DAY),");
        MarginWays x = Check.told("deed 0 0 0;person 0 0 1 to 0 1;person 0 1 1 to 0 2;goes met=0;");
        x.days(1);
        edges.same("the second one has not met the first one yet", x.person(1, 0), 2);
        MarginWays y = Check.told("deed 0 0 0;person 0 0 1 to 0 1;person 0 1 1 to 0 2;goes 2-steps-with-pace;");
        y.days(1);
        edges.same("those ahead have gone", y.person(1, 0), 1);
        edges.same("at that moment: each step anew", steps("goes far-1;"), 2);
        edges.says("gives more than 0");
        edges.same("1", steps("goes 1;"), 3);
        edges.same("2", steps("goes 2;"), 3);
        edges.same("0", steps("goes 0;"), 0);
        edges.same("below 0", steps("goes 0-1;"), 0);
        edges.same("the least int", steps("goes 4096*4096*128;"), 0);
        edges.same("the greatest int", steps("goes 4096*4096*128-1;"), 3);
        edges.says("(without it always):");
        edges.same("without", steps(""), 3);
    }

    private void whichStep() {
        edges.says("one makes a STEP by which it is one less far (of like ones to the least DEED, then the least PLACE).");
        String square = "deed 0 0;deed 0 0;stile 0 0;stile 0 1;";
        int[][] due = {{0, 11, 1}, {11, 0, 1}, {1, 10, 0}, {10, 1, 0}};
        for (int[] row : due) {
            String at = row[0] / 10 + " " + row[0] % 10;
            String to = row[1] / 10 + " " + row[1] % 10;
            MarginWays x = Check.told(square + "person " + at + " 1 to " + to + ";");
            x.days(1);
            edges.same("from " + row[0] + " to " + row[1], x.person(0, 0), row[2]);
        }
        MarginWays ring = Check.told("deed 0 0 0;deed 0 0 0;stile 0 0;stile 0 2;person 1 1 1 to 0 1;");
        ring.days(1);
        edges.same("of one deed the least place", ring.person(0, 0), 10);
        MarginWays cross = Check.told("deed 0 0 0;deed 0 0 0;deed 0 0 0;stile 0 1;stile 0 2;stile 1 0;stile 1 1;person 1 1 1 to 0 2;");
        cross.days(1);
        edges.same("the least deed, though its place is greater than another one's", cross.person(0, 0), 1);
        MarginWays round = Check.told("deed 0 0 0 0 0;deed 0 9 9 9 0;stile 0 0;stile 0 4;person 1 0 9 to 0 1;");
        round.days(1);
        edges.same("only a step by which it is less far", round.person(0, 0), 1);
        edges.same("two steps", Check.told("deed 0 0 0 0 0;deed 0 9 9 9 0;stile 0 0;stile 0 4;person 1 0 9 to 0 1;").gone(0, 9), 2);
    }

    private void come() {
        edges.says("One who is there then (also without any STEP) has COME, and is SENT nowhere any more.");
        String[] without = {"deed 0;person 0 0 0 to 0 0;", "deed 0;person 0 0 9 to 0 0;goes 0;", "deed 7;person 0 0 9 to 0 0;"};
        for (String text : without) {
            MarginWays x = Check.told(text);
            edges.same("without any step: " + text, x.comes(0), 1);
            x.days(1);
            edges.same("sent nowhere: " + text, x.person(0, 2), NONE);
            edges.same("nobody is sent: " + text, x.count(6), 0);
        }
        MarginWays y = Check.told("deed 0 0 0;person 0 0 1 to 0 2;");
        y.days(1);
        edges.same("not there yet: sent as ever", y.person(0, 2), 2);
        y.days(1);
        edges.same("there: sent nowhere", y.person(0, 2), NONE);
        y.let(0, 0);
        y.days(5);
        edges.same("and does not go again", y.person(0, 0), 0);
        MarginWays z = Check.told("deed 0 4;person 0 0 1 to 0 1;fades 0;");
        z.days(20);
        edges.same("without a way sent as ever", z.person(0, 2), 1);
    }

    private void met() {
        edges.says("Then each one has MET as many more as others are at one's PLACE (9999 at most).");
        MarginWays x = Check.told("deed 0 0;person 0 0 0;person 0 0 0;person 0 0 0;person 0 1 0;");
        x.days(1);
        edges.same("two others", x.person(0, 3), 2);
        edges.same("two others", x.person(2, 3), 2);
        edges.same("nobody", x.person(3, 3), 0);
        edges.same("all together", x.count(7), 6);
        x.days(2);
        edges.same("each day anew", x.person(0, 3), 6);
        MarginWays y = Check.told("deed 0 0;person 0 0 1 to 0 1;person 0 1 1 to 0 0;");
        y.days(1);
        edges.same("who pass each other don't meet", y.count(7), 0);
        MarginWays z = Check.told("deed 0 0 0;person 0 0 2 to 0 2;person 0 1 0;");
        z.days(1);
        edges.same("nor who goes by", z.count(7), 0);
        MarginWays v = Check.told("deed 0 0;person 0 0 1 to 0 1;person 0 0 0;");
        v.days(1);
        edges.same("nor who has gone", v.count(7), 0);
        MarginWays w = Check.told("deed 0;" + "person 0 0 0;".repeat(6));
        for (int i = 0; i < 99; i++) {
            w.days(20);
        }
        w.days(19);
        edges.same("5 by 1999", w.person(5, 3), 9995);
        w.days(1);
        edges.same("9999, not 10000", w.person(5, 3), 9999);
        w.days(1);
        edges.same("9999 stays", w.person(0, 3), 9999);
        edges.same("of all", w.count(7), 6 * 9999);
        edges.same("then, too", w.then(3, 60, 2), 9999);
    }

    private static int inkBehind(String text, int days) {
        MarginWays x = Check.told(text);
        x.days(days);
        return 100 * x.ink(0) + 10 * x.ink(1) + x.ink(2);
    }

    private void fades() {
        edges.says("Then DEED by DEED, PLACE by PLACE that has INK: INK is less by what FADES gives, kept to 0 to INK");
        edges.same("less", inkBehind("deed 9 5 0;fades 2;", 1), 730);
        edges.same("each by itself", inkBehind("deed 4 4 4;fades place;", 1), 432);
        edges.same("no more than INK", inkBehind("deed 9 5 1;fades 6;", 1), 300);
        edges.same("as much as INK", inkBehind("deed 9 5 1;fades ink;", 1), 0);
        edges.same("the greatest int", inkBehind("deed 9 5 1;fades 4096*4096*128-1;", 1), 0);
        edges.same("0", inkBehind("deed 9 5 1;fades 0;", 20), 951);
        edges.same("below 0", inkBehind("deed 9 5 1;fades 0-1;", 20), 951);
        edges.same("the least int", inkBehind("deed 9 5 1;fades 4096*4096*128;", 1), 951);
        edges.same("what is white stays so", inkBehind("deed 0 0 0;fades 0-9;", 5), 0);
        MarginWays x = Check.told("deed 0 2 0;person 0 0 9 to 0 2;fades 2;");
        edges.same("behind the steps: the way is there on the next day", x.comes(0), 2);
        MarginWays z = Check.told("deed 1;deed 1;deed 1;fades deed;");
        z.days(1);
        edges.same("deed by deed", 100 * z.ink(0) + 10 * z.ink(10) + z.ink(20), 100);
        edges.says("(without it 1, if DAY MOD 5 is 4, else 0).");
        edges.same("not on the days 0 to 3", inkBehind("deed 3 1 0;", 4), 310);
        edges.same("on day 4", inkBehind("deed 3 1 0;", 5), 200);
        edges.same("not on the days 5 to 8", inkBehind("deed 3 1 0;", 9), 200);
        edges.same("on day 9", inkBehind("deed 3 1 0;", 10), 100);
        edges.same("on days 14 and 19", inkBehind("deed 9 4 0;", 20), 500);
        edges.same("not with a rule", inkBehind("deed 3 1 0;fades 0;", 10), 310);
        edges.says("The DAY is one more then.");
        MarginWays y = Check.told("deed 0;");
        edges.same("0 at first", y.count(2), 0);
        edges.same("one more", y.days(1), 1);
        edges.same("by each", y.days(20), 21);
    }

    private void acts() {
        edges.says("ACTS (at most 40 are kept, the latest ones):");
        MarginWays x = Check.told("deed 0 0;");
        for (int i = 1; i <= 40; i++) {
            x.type(i % 2, i / 10);
            edges.same("kept", x.count(8), i);
        }
        x.type(0, 9);
        edges.same("40 of 41", x.count(8), 40);
        for (int left = 39; left >= 0; left--) {
            edges.same("undo", x.undo(), left);
        }
        edges.same("the first one is not undone", x.undo(), NONE);
        MarginWays y = Check.told("deed 0 0;");
        y.type(1, 7);
        for (int i = 0; i < 40; i++) {
            y.type(0, i % 9 + 1);
        }
        for (int i = 0; i < 40; i++) {
            y.undo();
        }
        edges.same("the latest ones are undone", y.ink(0), 0);
        edges.same("the first one stays", y.ink(1), 7);
        edges.says("DAYS go by (1 to 20);");
        MarginWays z = one();
        edges.same("1", z.days(1), 1);
        edges.same("20", z.days(20), 21);
        edges.same("each is one act", z.count(8), 2);
        edges.refused("0", EdgeOfDays::one, 1, NONE, made -> made.days(0));
        edges.refused("21", EdgeOfDays::one, 1, NONE, made -> made.days(21));
        edges.says("a PLACE is TYPED over with other INK (0 to 9);");
        edges.same("9", z.type(0, 9), 0);
        edges.same("0", z.type(0, 0), 9);
        edges.same("acts", z.count(8), 4);
        edges.refused("-1", EdgeOfDays::one, 1, NONE, made -> made.type(0, -1));
        edges.refused("10", EdgeOfDays::one, 1, NONE, made -> made.type(0, 10));
        edges.says("a STILE is set, or taken;");
        edges.isTrue("set", z.stile(1, true));
        edges.isTrue("taken", z.stile(1, false));
        edges.same("acts", z.count(8), 6);
        edges.says("one is SENT to a PLACE (in place of another one), or nowhere;");
        edges.same("sent", z.send(0, 1), NONE);
        edges.same("in place of another one", z.send(0, 11), 1);
        edges.same("nowhere", z.send(0, NONE), 11);
        edges.same("acts", z.count(8), 9);
        edges.says("one is LET DOWN at another PLACE that is white (SENT as ever).");
        z.send(0, 10);
        edges.same("let down", z.let(0, 11), 0);
        edges.same("sent as ever", z.person(0, 2), 10);
        edges.same("acts", z.count(8), 11);
        z.let(0, 10);
        edges.same("sent as ever, though one is there now", z.person(0, 2), 10);
        z.type(11, 3);
        edges.refused("not onto ink", () -> z, 1, NONE, made -> made.let(0, 11));
        edges.refused("not where one is", EdgeOfDays::one, 1, NONE, made -> made.let(0, 0));
    }

    private static MarginWays one() {
        return Check.told("deed 0 0;deed 0 0;person 0 0 1;");
    }

    /** Another object behind the first acts of a row, and no more of them. */
    private static MarginWays acted(int many) {
        MarginWays x = Check.told("deed 0 0 3 0;deed 0 0 0 0;stile 0 3;person 0 0 1 to 0 1;person 0 1 2 to 1 3;person 1 3 0;");
        List<Check.Call> calls = List.of(() -> x.days(3), () -> x.type(2, 0), () -> x.days(20), () -> x.stile(1, true) ? 1 : 0,
            () -> x.send(0, 13), () -> x.days(1), () -> x.send(1, 2), () -> x.let(2, 0), () -> x.stile(3, false) ? 1 : 0,
            () -> x.type(13, 9), () -> x.send(2, 11), () -> x.days(7));
        for (Check.Call call : calls.subList(0, many)) {
            call.run();
        }
        return x;
    }

    private void undone() {
        edges.says("They are UNDONE, the last one first.");
        for (int many = 0; many <= 12; many++) {
            MarginWays x = acted(12);
            edges.same("acts", x.count(8), 12);
            for (int left = 11; left >= many; left--) {
                edges.same("undo", x.undo(), left);
            }
            edges.isTrue("as behind act " + many, Edges.state(x).equals(Edges.state(acted(many))));
        }
        MarginWays none = acted(0);
        edges.same("none is left", none.undo(), NONE);
        // undone and made anew beyond 40, so that the rows are used again
        MarginWays y = Check.told("deed 0;");
        for (int i = 1; i <= 45; i++) {
            y.type(0, i % 10);
        }
        for (int i = 0; i < 10; i++) {
            y.undo();
        }
        edges.same("as behind the 35th", y.ink(0), 5);
        for (int i = 1; i <= 15; i++) {
            y.type(0, i % 10);
        }
        edges.same("40 again", y.count(8), 40);
        for (int left = 39; left >= 0; left--) {
            y.undo();
            int due = left >= 25 ? (left - 25) % 10 : left % 10;
            edges.same("one act less, " + left + " left", y.ink(0), left == 25 ? 5 : due);
        }
    }
}
