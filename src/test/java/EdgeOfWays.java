/** The document's part 3, ways as they are now, and what part 5 says of them. */
final class EdgeOfWays {
    private static final int NONE = MarginWays.NONE;
    private static final String EIGHT = "deed 0 0 0 0 0 0 0 0;";

    private final Edges edges;

    EdgeOfWays(Edges edges) {
        this.edges = edges;
    }

    void all() {
        edges.in("==== 3.");
        firstStep();
        reached();
        parts();
        farthest();
        toClear();
        needed();
        whereAll();
        whoGoes();
        whoseErrand();
        edges.in("==== 5.");
        shortestWays();
        near();
    }

    private void firstStep() {
        edges.says("(Now:) the FIRST STEP from a PLACE to another one (10 by the DEED, and PLACE), as a PERSON would make it; none.");
        MarginWays x = Check.told("deed 0 0;deed 0 0;deed 9 0;stile 0 0;stile 0 1;stile 1 1;");
        int[][] due = {{0, 11, 1}, {11, 0, 1}, {1, 10, 0}, {10, 1, 0}, {0, 21, 1}, {21, 0, 11}, {0, 10, 10}, {10, 11, 11}, {20, 21, 21}};
        for (int[] row : due) {
            edges.same("way(" + row[0] + ", " + row[1] + ", 1)", x.way(row[0], row[1], 1), row[2]);
        }
        edges.same("none onto ink", x.way(21, 20, 1), NONE);
        edges.same("none to itself", x.way(0, 0, 1), NONE);
        edges.same("none to itself on ink", x.way(20, 20, 1), NONE);
        x.stile(11, false);
        edges.same("none without a way", x.way(0, 21, 1), NONE);
        MarginWays ring = Check.told("deed 0 0 0;deed 0 0 0;stile 0 0;stile 0 2;");
        edges.same("of one deed the least place", ring.way(11, 1, 1), 10);
        edges.same("of one deed the least place", ring.way(1, 11, 1), 0);
    }

    private void reached() {
        edges.says("REACHED from a PLACE: the PLACES of a DEED to which there is a way (bits; itself, too, with INK or not).");
        MarginWays x = Check.told("deed 0 0 4 0;deed 0 7 0 0;deed 0;stile 0 0;stile 0 3;");
        edges.same("up to ink", x.reached(0, 0), 3);
        edges.same("by a stile", x.reached(0, 1), 1);
        edges.same("no way", x.reached(0, 2), 0);
        edges.same("itself with ink, and both sides of it", x.reached(2, 0), 15);
        edges.same("from there by both stiles", x.reached(2, 1), 13);
        edges.same("itself without ink", x.reached(20, 2), 1);
        MarginWays y = Check.told("deed 9 9;");
        edges.same("itself alone", y.reached(1, 0), 2);
        MarginWays z = Check.told(EIGHT.repeat(6) + "stile 0 7;stile 1 0;stile 2 7;stile 3 0;stile 4 7;");
        for (int deed = 0; deed < 6; deed++) {
            edges.same("all of deed " + deed + " from the first place", z.reached(0, deed), 255);
            edges.same("all of deed " + deed + " from the last place", z.reached(50, deed), 255);
        }
    }

    private void parts() {
        edges.says("PARTS: how many there are of white PLACES that are held together by STEPS.");
        edges.same("none without places", new MarginWays().count(3), 0);
        edges.same("none without white ones", Check.told("deed 9 1;").count(3), 0);
        edges.same("one", Check.told("deed 0;").count(3), 1);
        edges.same("a place with ink parts them", Check.told("deed 0 9 0;").count(3), 2);
        edges.same("deeds without a stile", Check.told("deed 0;deed 0;deed 0;").count(3), 3);
        edges.same("a stile joins them", Check.told("deed 0;deed 0;deed 0;stile 1 0;").count(3), 2);
        edges.same("a stile at ink does not", Check.told("deed 0 9;deed 0 0;stile 0 1;").count(3), 2);
        edges.same("the most that can be", Check.told("deed 0 1 0 1 0 1 0 1;deed 1 0 1 0 1 0 1 0;".repeat(3)).count(3), 24);
        edges.same("one of 48", Check.told(EIGHT.repeat(6) + "stile 0 7;stile 1 0;stile 2 7;stile 3 0;stile 4 7;").count(3), 1);
    }

    private void farthest() {
        edges.says("FARTHEST from a PLACE: that to which it is farthest of those to which there is a way (of like ones the least by 10 by the DEED, and PLACE): which; how far.");
        MarginWays x = Check.told("deed 0 0 0 0 0;deed 0 0 0;stile 0 2;");
        edges.same("which", x.farthest(0, 0), 10);
        edges.same("how far", x.farthest(0, 1), 5);
        edges.same("of like ones the least", x.farthest(2, 0), 10);
        edges.same("how far", x.farthest(2, 1), 3);
        x.type(10, 1);
        edges.same("of like ones the least", x.farthest(2, 0), 0);
        edges.same("how far", x.farthest(2, 1), 2);
        edges.same("from ink", x.farthest(10, 0), 0);
        edges.same("from ink", x.farthest(10, 1), 5);
        MarginWays y = Check.told("deed 0 3 0;");
        edges.same("none else: itself", y.farthest(2, 0), 2);
        edges.same("none else: 0", y.farthest(2, 1), 0);
        edges.same("itself on ink not, if there is another one", y.farthest(1, 0), 0);
        MarginWays z = Check.told(EIGHT.repeat(6) + "stile 0 7;stile 1 0;stile 2 7;stile 3 0;stile 4 7;");
        edges.same("the farthest that can be", z.farthest(50, 0), 0);
        edges.same("the farthest that can be", z.farthest(50, 1), 47);
    }

    private void toClear() {
        edges.says("TO CLEAR for a way from a PLACE to another one: the fewest PLACES with INK (where one begins not counted, that to which one goes counted) that must be white so that there is one, STILES as they are; none, if there is none by any.");
        MarginWays x = Check.told("deed 7 5 5 5 3;deed 0 0 9 0 0;deed 0;stile 0 0;stile 0 4;");
        edges.same("rather one than three", x.way(0, 4, 2), 2);
        edges.same("the one where one begins isn't counted", x.way(0, 10, 2), 0);
        edges.same("that to which one goes is", x.way(10, 0, 2), 1);
        edges.same("one on the way", x.way(10, 14, 2), 1);
        edges.same("one on the way and the last", x.way(10, 4, 2), 2);
        edges.same("the longer way with less ink", x.way(1, 3, 2), 2);
        edges.same("to itself", x.way(0, 0, 2), 0);
        edges.same("none by any: stiles as they are", x.way(0, 20, 2), NONE);
        edges.same("none by any", x.way(20, 14, 2), NONE);
        x.type(12, 0);
        edges.same("a way is there", x.way(10, 14, 2), 0);
        StringBuilder full = new StringBuilder();
        for (int deed = 0; deed < 6; deed++) {
            full.append("deed").append(" 9".repeat(8)).append(";");
        }
        MarginWays y = Check.told(full + "stile 0 7;stile 1 0;stile 2 7;stile 3 0;stile 4 7;");
        edges.same("the most that can be", y.way(0, 50, 2), 47);
        edges.same("ink counts by places, not by how much", Check.told("deed 0 1 1 0;deed 0 9 0 0;stile 0 0;stile 0 3;").way(0, 3, 2), 1);
    }

    private void needed() {
        edges.says("NEEDED on the way: how many white PLACES (neither of both) there are without each of which, alone, there were no way, though there is one now.");
        MarginWays x = Check.told("deed 0 0 0 0 0;deed 9 0 0 9 9;stile 0 1;stile 0 2;");
        edges.same("those between", x.way(0, 4, 3), 3);
        edges.same("beside each other: none", x.way(0, 1, 3), 0);
        edges.same("to itself: none", x.way(2, 2, 3), 0);
        edges.same("by either of two", x.way(1, 12, 3), 0);
        edges.same("from ink, which one needs not", x.way(10, 0, 3), 2);
        edges.same("no way now: none", x.way(0, 13, 3), 0);
        edges.same("no way now: none", x.way(0, 10, 3), 0);
        MarginWays y = Check.told("deed 0 0 0;deed 0 0 0;stile 0 0;stile 0 2;");
        edges.same("a ring: none alone", y.way(1, 11, 3), 0);
        y.type(10, 1);
        edges.same("a ring cut: all", y.way(1, 11, 3), 2);
        edges.same("the first place of all", Check.told("deed 0 0;deed 0;stile 0 0;").way(10, 1, 3), 1);
        MarginWays last = Check.told(EIGHT.repeat(6) + "stile 4 7;");
        edges.same("the last place of all", last.way(47, 56, 3), 1);
    }

    private void whereAll() {
        edges.says("WHERE ALL should meet: the PLACE, white or not, to which most PEOPLE can come,");
        MarginWays x = Check.told("deed 0 0 0;deed 0 0 0 0 0 0 0 0;person 0 0 0;person 1 0 0;person 1 7 0;");
        edges.same("where two can come, rather than near", x.gather(0), 10);
        edges.same("how far for these", x.gather(1), 7);
        MarginWays ink = Check.told("deed 0;deed 4 9;person 0 0 0;person 1 0 0;person 1 0 0;");
        edges.same("ink, where two are", ink.gather(0), 10);
        edges.same("ink, where two are", ink.gather(1), 0);
        edges.says("and of these that to which it is least far for those who can, all together");
        MarginWays y = Check.told("deed 0 0 0 0 0;person 0 0 1;person 0 4 1;person 0 3 1;");
        edges.same("in the middle", y.gather(0), 3);
        edges.same("4 in all", y.gather(1), 4);
        MarginWays part = Check.told("deed 0 0 9;person 0 2 0;person 0 0 0;person 0 0 0;");
        edges.same("all three", part.gather(0), 0);
        edges.same("by two steps", part.gather(1), 2);
        MarginWays off = Check.told("deed 0 0 0;deed 0;person 1 0 0;person 0 0 0;person 0 2 0;person 0 2 0;");
        edges.same("those who can't aren't counted", off.gather(0), 2);
        edges.same("those who can't aren't counted", off.gather(1), 2);
        edges.says("(of like ones the least by 10 by the DEED, and PLACE): which; how far; none without PEOPLE.");
        MarginWays like = Check.told("deed 0 0 0;deed 0 0 0;stile 0 1;person 1 0 0;person 0 2 0;");
        edges.same("of like ones the least", like.gather(0), 1);
        edges.same("how far", like.gather(1), 3);
        MarginWays six = Check.told("deed 0 0 0 0 0;person 0 0 0;person 0 0 0;person 0 4 0;person 0 4 0;person 0 3 0;person 0 0 0;");
        edges.same("by all six", six.gather(0), 0);
        edges.same("by all six", six.gather(1), 11);
        MarginWays alone = Check.told("deed 0 0;deed 0 9;person 1 1 0;");
        edges.same("where one is", alone.gather(0), 11);
        edges.same("0 far", alone.gather(1), 0);
        edges.same("none without people", Check.told("deed 0;").gather(0), NONE);
        edges.same("none without people", Check.told("deed 0;").gather(1), NONE);
        edges.same("none without anything", new MarginWays().gather(0), NONE);
        edges.same("none without anything", new MarginWays().gather(1), NONE);
    }

    private void errands(MarginWays x, int many, int far, int... whose) {
        edges.same("how many", x.errands(0), many);
        edges.same("how far", x.errands(1), far);
        for (int who = 0; who < whose.length; who++) {
            edges.same("whose by " + who, x.errand(who), whose[who]);
        }
    }

    private void whoGoes() {
        edges.says("WHO GOES: each of PEOPLE, SENT or not, is to go to one of those PLACES to which somebody is SENT now");
        errands(Check.told("deed 0 0 0;person 0 0 0 to 0 2;person 0 2 0;"), 1, 0, NONE, 0);
        errands(Check.told("deed 0;person 0 0 0;person 0 0 0;"), 0, 0, NONE, NONE);
        errands(Check.told("deed 0 0 0;person 0 0 0 to 0 0;person 0 2 0;"), 1, 0, 0, NONE);
        edges.says("(each as often as it is told), no two by one of these,");
        errands(Check.told("deed 0 0 0;person 0 0 0 to 0 2;person 0 1 0 to 0 2;person 0 2 0;"), 2, 1, NONE, 0, 1);
        errands(Check.told("deed 0 0 0;person 0 0 0 to 0 2;person 0 1 0;person 0 2 0;"), 1, 0, NONE, NONE, 0);
        edges.says("as many as can,");
        // 1 is at 0's goal, but 2 can come to no other one
        errands(Check.told("deed 0 0 0;deed 9 0;stile 0 1;person 0 2 0 to 0 1;person 0 1 0 to 0 2;person 1 0 0;"), 2, 0, 1, 0, NONE);
        // who can come nowhere else takes the only one
        errands(Check.told("deed 0 9 0 0;person 0 3 0 to 0 3;person 0 0 0 to 0 0;person 0 1 0;"), 2, 0, 0, 1, NONE);
        errands(Check.told("deed 0 0 9;deed 0;person 0 0 0 to 0 1;person 0 1 0 to 1 0;person 1 0 0 to 0 2;"), 2, 0, NONE, 0, 1);
        // 0 stands on ink between both, and goes far, so that 1, who can come to but one, goes, too
        errands(Check.told("deed 0 3 0 0 0;person 0 1 0 to 0 0;person 0 0 0 to 0 4;"), 2, 3, 1, 0);
        errands(Check.told("deed 0 0 0 3 0 0;person 0 0 0 to 0 2;person 0 3 0 to 0 5;"), 2, 4, 0, 1);
        edges.says("and of these ways that by which it is least far, all together: how many; how far;");
        errands(Check.told("deed 0 0 0 0 0 0;person 0 1 0 to 0 5;person 0 4 0 to 0 0;"), 2, 2, 1, 0);
        errands(Check.told("deed 0 0 0 0 0 0;person 0 1 0 to 0 2;person 0 2 0 to 0 5;"), 2, 4, 0, 1);
        MarginWays snake = Check.told(EIGHT.repeat(6) + "stile 0 7;stile 1 0;stile 2 7;stile 3 0;stile 4 7;" + "person 0 0 0 to 5 0;".repeat(6));
        errands(snake, 6, 6 * 47, 0, 1, 2, 3, 4, 5);
        errands(Check.told("deed 9 9;person 0 0 0 to 0 1;person 0 1 0 to 0 0;"), 2, 0, 1, 0);
        errands(Check.told("deed 9 9;person 0 0 0 to 0 1;"), 0, 0, NONE);
        errands(Check.told("deed 0;"), 0, 0);
        errands(new MarginWays(), 0, 0);
    }

    private void whoseErrand() {
        edges.says("whose errand a PERSON takes: of like ones the first row (by PEOPLE: whose; none behind all).");
        errands(Check.told("deed 0;" + "person 0 0 0 to 0 0;".repeat(6)), 6, 0, 0, 1, 2, 3, 4, 5);
        errands(Check.told("deed 0;person 0 0 0;person 0 0 0 to 0 0;person 0 0 0;"), 1, 0, 1, NONE, NONE);
        errands(Check.told("deed 0;person 0 0 0;person 0 0 0 to 0 0;person 0 0 0 to 0 0;person 0 0 0;"), 2, 0, 1, 2, NONE, NONE);
        // two rows of like length: 0 takes 0's, though 1's is as far in all
        errands(Check.told("deed 0 0 0;person 0 1 0 to 0 0;person 0 1 0 to 0 2;"), 2, 2, 0, 1);
        errands(Check.told("deed 0 0 0;person 0 1 0;person 0 1 0 to 0 2;person 0 1 0 to 0 0;"), 2, 2, 1, 2, NONE);
        // one takes an errand rather than none, if it is as far
        errands(Check.told("deed 0 0 0;person 0 0 0;person 0 2 0;person 0 1 0 to 0 1;"), 1, 0, NONE, NONE, 2);
        errands(Check.told("deed 0 0 0;deed 0;person 0 0 0;person 0 2 0;person 1 0 0 to 0 1;"), 1, 1, 2, NONE, NONE);
        edges.same("asked for at first", Check.told("deed 0;person 0 0 0;person 0 0 0 to 0 0;").errand(0), 1);
        MarginWays acts = Check.told("deed 0;person 0 0 0;person 0 0 0 to 0 0;");
        acts.errand(0);
        acts.send(1, NONE);
        edges.same("as it is now", acts.errand(0), NONE);
    }

    private void shortestWays() {
        edges.says("SHORTEST WAYS from a PLACE to another one now: how many there are that have as few STEPS as it is far (1 to itself; 0, if there is no way).");
        MarginWays x = Check.told("deed 0 0 0;deed 0 0 0;deed 4 0 9;stile 0 0;stile 0 1;stile 0 2;stile 1 0;stile 1 1;");
        edges.same("one", x.ways(0, 2), 1);
        edges.same("two", x.ways(0, 11), 2);
        edges.same("three", x.ways(0, 12), 3);
        edges.same("two of three, as one place has ink", x.ways(0, 21), 2);
        edges.same("back, too", x.ways(21, 0), 2);
        edges.same("to itself", x.ways(0, 0), 1);
        edges.same("to itself on ink", x.ways(20, 20), 1);
        edges.same("onto ink", x.ways(10, 20), 0);
        edges.same("from ink", x.ways(20, 0), 1);
        edges.same("from ink by two", x.ways(20, 11), 2);
        edges.same("no way", x.ways(0, 22), 0);
        MarginWays y = Check.told(EIGHT.repeat(6));
        for (int deed = 0; deed < 5; deed++) {
            for (int place = 0; place < 8; place++) {
                y.stile(10 * deed + place, true);
            }
        }
        edges.same("12 steps, 5 of them by stiles", y.ways(0, 57), 792);
        edges.same("and back", y.ways(57, 0), 792);
        edges.same("the other corners", y.ways(7, 50), 792);
        edges.same("only the shortest", y.ways(0, 7), 1);
    }

    private void near() {
        edges.says("NEAR one: the other one to whose PLACE it is least far from one's own now (of like ones the least); none.");
        MarginWays x = Check.told("deed 0 0 0 0 0;deed 0;person 0 2 0;person 0 4 0;person 0 0 0;person 0 4 0;person 1 0 0;");
        edges.same("of like ones the least", x.near(0), 1);
        edges.same("at the same place", x.near(1), 3);
        edges.same("at the same place", x.near(3), 1);
        edges.same("the nearest", x.near(2), 0);
        edges.same("none", x.near(4), NONE);
        MarginWays y = Check.told("deed 4 0 0;person 0 0 0;person 0 1 0;person 0 2 0;");
        edges.same("from ink", y.near(0), 1);
        edges.same("not to one on ink", y.near(1), 2);
        y.let(2, 1);
        y.type(1, 9);
        edges.same("to one with whom one is on ink", y.near(1), 2);
        edges.same("to nobody else on ink", y.near(0), NONE);
        edges.same("oneself is not another one", Check.told("deed 0;person 0 0 0;").near(0), NONE);
        MarginWays z = Check.told(EIGHT.repeat(6) + "stile 0 7;stile 1 0;stile 2 7;stile 3 0;stile 4 7;person 0 0 0;person 5 0 0;");
        edges.same("however far", z.near(0), 1);
        MarginWays six = Check.told("deed 0 0 0 0 0 0 0;person 0 0 0;person 0 6 0;person 0 5 0;person 0 4 0;person 0 3 0;person 0 2 0;");
        edges.same("the sixth one", six.near(0), 5);
        edges.same("of the sixth one", six.near(5), 4);
    }
}
