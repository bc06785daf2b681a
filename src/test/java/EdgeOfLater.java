/** The document's part 3, what comes if only DAYS go by, and what part 5 says of it. */
final class EdgeOfLater {
    private static final int NONE = MarginWays.NONE;
    /** One steps to the other one on the 60th day, or on the one behind it. */
    private static final String ON_60 = "deed 0 0;person 0 0 1 to 0 1;person 0 1 0;goes day=59;";
    private static final String ON_61 = "deed 0 0;person 0 0 1 to 0 1;person 0 1 0;goes day=60;";

    private final Edges edges;

    EdgeOfLater(Edges edges) {
        this.edges = edges;
    }

    void all() {
        edges.in("==== 3.");
        then();
        comesAndMeet();
        crowd();
        clear();
        edges.in("==== 5.");
        lonely();
        thickest();
        gone();
    }

    private void then() {
        edges.says("(If only DAYS go by, from now on:)");
        MarginWays x = Check.told("deed 0 0 0 0;person 0 0 1 to 0 3;");
        edges.same("from now on", x.then(0, 2, 1), 2);
        x.days(1);
        edges.same("from now on", x.then(0, 2, 1), 3);
        edges.same("from now on", x.comes(0), 2);
        x.send(0, 0);
        edges.same("as all is now", x.then(0, 2, 1), 0);
        edges.says("THEN, behind so many DAYS (0 to 60): in which DEED one is, at which PLACE, how many one has MET, whether one is SENT somewhere.");
        MarginWays y = Check.told("deed 0 0;deed 0 0;stile 0 1;person 0 0 1 to 1 1;person 1 1 0;");
        int[][] due = {{0, 0, 0, 1}, {0, 1, 0, 1}, {1, 1, 1, 0}, {1, 1, 2, 0}};
        for (int days = 0; days < due.length; days++) {
            for (int what = 0; what < 4; what++) {
                edges.same("then(0, " + days + ", " + what + ")", y.then(0, days, what), due[days][what]);
            }
        }
        edges.same("behind 60", y.then(0, 60, 2), 59);
        edges.same("one who isn't sent", y.then(1, 0, 3), 0);
        MarginWays z = Check.told(ON_60);
        edges.same("behind 59", z.then(0, 59, 1), 0);
        edges.same("behind 60", z.then(0, 60, 1), 1);
        edges.illegal("61", ON_60, made -> made.then(0, 61, 0));
        edges.illegal("-1", ON_60, made -> made.then(0, -1, 0));
    }

    private void comesAndMeet() {
        edges.says("COMES: behind how many DAYS (1 to 60) one has COME first; none.");
        edges.same("1, though one is there already", Check.told("deed 0;person 0 0 0 to 0 0;").comes(0), 1);
        edges.same("60", Check.told(ON_60).comes(0), 60);
        edges.same("not 61", Check.told(ON_61).comes(0), NONE);
        edges.same("never", Check.told("deed 0 0;person 0 0 0 to 0 1;").comes(0), NONE);
        edges.same("one isn't sent", Check.told(ON_60).comes(1), NONE);
        edges.says("MEET: behind how many DAYS (0 to 60) two are at one PLACE first; none.");
        edges.same("0", Check.told("deed 0 0;person 0 0 1 to 0 1;person 0 0 0;").meet(0, 1), 0);
        edges.same("1", Check.told("deed 0 0;person 0 0 1 to 0 1;person 0 1 0;").meet(0, 1), 1);
        edges.same("60", Check.told(ON_60).meet(0, 1), 60);
        edges.same("60 the other way", Check.told(ON_60).meet(1, 0), 60);
        edges.same("not 61", Check.told(ON_61).meet(0, 1), NONE);
        MarginWays x = Check.told("deed 0 0 0 0;person 0 0 1 to 0 3;person 0 1 0;person 0 2 0;");
        edges.same("first", x.meet(0, 1), 1);
        edges.same("first", x.meet(0, 2), 2);
        edges.same("who pass each other are never at one place", Check.told("deed 0 0;person 0 0 1 to 0 1;person 0 1 1 to 0 0;").meet(0, 1), NONE);
        edges.same("at one place of two deeds isn't at one place", Check.told("deed 0;deed 0;person 0 0 0;person 1 0 0;").meet(0, 1), NONE);
    }

    private void crowd() {
        edges.says("CROWD behind so many DAYS (0 to 60): how many are where most are;");
        MarginWays x = Check.told(ON_60);
        edges.same("now", x.later(0, 0), 1);
        edges.same("behind 59", x.later(59, 0), 1);
        edges.same("behind 60", x.later(60, 0), 2);
        edges.illegal("61", ON_60, made -> made.later(61, 0));
        edges.illegal("-1", ON_60, made -> made.later(-1, 0));
        edges.same("all", Check.told("deed 0;" + "person 0 0 0;".repeat(6)).later(0, 0), 6);
        edges.says("that PLACE (10 by the DEED, and PLACE; of like ones the least).");
        edges.same("where one alone is", Check.told("deed 0 0;person 0 1 0;").later(0, 1), 1);
        MarginWays y = Check.told("deed 0 0 0 0;deed 0 0 0;person 1 2 0;person 0 3 0;");
        edges.same("the least of like ones, whoever is there", y.later(0, 1), 3);
        y.let(1, 12);
        edges.same("10 by the deed", y.later(0, 1), 12);
        MarginWays z = Check.told("deed 0 0 0;deed 0 0 0;person 1 1 0;person 1 1 0;person 0 2 0;person 0 2 0;person 0 0 0;person 1 0 1 to 1 1;");
        edges.same("of two by two the least", z.later(0, 1), 2);
        edges.same("where most are", z.later(1, 1), 11);
        edges.same("how many", z.later(1, 0), 3);
        edges.says("INKED then: at how many PLACES there is INK.");
        MarginWays v = Check.told("deed 9 1 0;deed 5;fades day=59;");
        edges.same("now", v.later(0, 2), 3);
        edges.same("behind 59", v.later(59, 2), 3);
        edges.same("behind 60", v.later(60, 2), 2);
        edges.same("none", Check.told("deed 0;").later(0, 2), 0);
        edges.same("all", Check.told(("deed" + " 9".repeat(8) + ";").repeat(6)).later(0, 2), 48);
    }

    private void clear() {
        edges.says("CLEAR: behind how many DAYS (0 to 60) a PLACE is white first; none.");
        MarginWays x = Check.told("deed 0 2;fades day=29 or day=59;");
        edges.same("0", x.clear(0), 0);
        edges.same("60", x.clear(1), 60);
        edges.same("not 61", Check.told("deed 1;fades day=60;").clear(0), NONE);
        edges.same("1", Check.told("deed 1;fades 1;").clear(0), 1);
        edges.same("never", Check.told("deed 1;fades 0;").clear(0), NONE);
        edges.same("without a rule", Check.told("deed 9;").clear(0), 45);
        edges.same("when one has gone", Check.told("deed 1 0;person 0 0 1 to 0 1;fades with=0;").clear(0), 1);
    }

    private void lonely() {
        edges.says("LONELY in so many DAYS (0 to 60), if only these go by: who MEETS nobody in them (bits).");
        MarginWays x = Check.told(ON_60);
        edges.same("in none of 0 days", x.ahead(0, 0), 3);
        edges.same("in 59", x.ahead(59, 0), 3);
        edges.same("in 60", x.ahead(60, 0), 0);
        edges.illegal("61", ON_60, made -> made.ahead(61, 0));
        edges.illegal("-1", ON_60, made -> made.ahead(-1, 0));
        edges.same("to be together now is not to meet", Check.told("deed 0;person 0 0 0;person 0 0 0;").ahead(0, 0), 3);
        edges.same("nor if one goes", Check.told("deed 0 0;person 0 0 1 to 0 1;person 0 0 0;").ahead(9, 0), 3);
        MarginWays y = Check.told("deed 0 0;" + "person 0 0 0;".repeat(2) + "person 0 1 0;" + "person 0 0 0;".repeat(3));
        edges.same("the third one", y.ahead(1, 0), 4);
        y.let(5, 1);
        edges.same("nobody", y.ahead(1, 0), 0);
        edges.same("all six", Check.told("deed 0 0 0 0 0 0;" + "person 0 0 0;person 0 1 0;person 0 2 0;person 0 3 0;person 0 4 0;person 0 5 0;").ahead(60, 0), 63);
        MarginWays z = Check.told("deed 0 0;person 0 0 0;person 0 0 0;");
        z.days(5);
        z.let(1, 1);
        edges.same("in them, not ahead of them", z.ahead(60, 0), 3);
    }

    private void thickest() {
        edges.says("THICKEST behind so many DAYS (0 to 60): the PLACE with most INK (10 by the DEED, and PLACE; of like ones the least);");
        String text = "deed 5 1;deed 4 4 6;fades (ink=6 or ink=5)*6*(day=59);";
        MarginWays x = Check.told(text);
        edges.same("now", x.ahead(0, 1), 12);
        edges.same("behind 59", x.ahead(59, 1), 12);
        edges.same("behind 60 the least of like ones", x.ahead(60, 1), 10);
        edges.illegal("61", text, made -> made.ahead(61, 1));
        edges.illegal("-1", text, made -> made.ahead(-1, 1));
        edges.same("the least of like ones", Check.told("deed 0 0 2;deed 2;").ahead(0, 1), 2);
        edges.same("the first place of all", Check.told("deed 4 3;").ahead(0, 1), 0);
        edges.same("the last place of all", Check.told("deed 0;deed 0;deed 0;deed 0;deed 0;deed 0 0 0 0 0 0 0 1;").ahead(0, 1), 57);
        edges.says("none, if all are white.");
        edges.same("all white", Check.told("deed 0 0;").ahead(0, 1), NONE);
        edges.same("all white then", Check.told("deed 1;fades 1;").ahead(1, 1), NONE);
        edges.same("no places", new MarginWays().ahead(0, 1), NONE);
    }

    private void gone() {
        edges.says("GONE in so many DAYS (0 to 60): how many STEPS one makes.");
        MarginWays x = Check.told(ON_60);
        edges.same("in 0", x.gone(0, 0), 0);
        edges.same("in 59", x.gone(0, 59), 0);
        edges.same("in 60", x.gone(0, 60), 1);
        edges.illegal("61", ON_60, made -> made.gone(0, 61));
        edges.illegal("-1", ON_60, made -> made.gone(0, -1));
        MarginWays y = Check.told("deed 0 0 0 0 0 0 0 0;person 0 0 3 to 0 7;person 0 7 2 to 0 3;");
        edges.same("one's own", y.gone(0, 1), 3);
        edges.same("all days together", y.gone(0, 2), 6);
        edges.same("no more than it is far", y.gone(0, 60), 7);
        edges.same("the other one's", y.gone(1, 60), 4);
        y.days(2);
        edges.same("from now on", y.gone(0, 60), 1);
        MarginWays z = Check.told("deed 0 0 0 0 0 0 0 0;deed 0 0 0 0 0 0 0 0;stile 0 7;person 0 0 9 to 1 0;");
        edges.same("nine in a day", z.gone(0, 1), 9);
    }
}
