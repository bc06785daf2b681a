/** The document's part 4: SEEN, QUICK, LOOK NEXT, CANDLES, A GAME, YEARS, STATUS. */
final class EdgeOfChance {
    private static final int NONE = MarginWays.NONE;
    /** One of pace 0 who is sent to the next deed. */
    private static final String NEXT_DEED = "deed 0;deed 0;stile 0 0;person 0 0 0 to 1 0;";
    private static final String EIGHT = "deed 0 0 0 0 0 0 0 0;";

    private final Edges edges;

    EdgeOfChance(Edges edges) {
        this.edges = edges;
    }

    void all() {
        edges.in("==== 4.");
        seen();
        quick();
        lookNext();
        candles();
        game();
        couples();
        years();
        draws();
        status();
    }

    private void seen() {
        edges.says("SEEN (at most 8): that one was in a DEED behind so many DAYS (0 to 20).");
        MarginWays x = Check.told(NEXT_DEED + "goes day=19;");
        for (int many = 1; many <= 8; many++) {
            edges.same("see", x.see(0, 0, many), many);
        }
        edges.refused("the 9th", () -> x, 2, NONE, made -> made.see(0, 0, 0));
        x.forget();
        edges.same("20", x.see(0, 1, 20), 1);
        edges.same("behind 20 days: by the paces 1 to 9", x.quick(0), 9);
        edges.same("0", x.see(0, 0, 0), 2);
        edges.same("now one is there", x.quick(0), 9);
        edges.same("19", x.see(0, 0, 19), 3);
        edges.same("behind 19 days one is there yet", x.quick(0), 9);
        edges.refused("21", () -> Check.told(NEXT_DEED), 2, NONE, made -> made.see(0, 0, 21));
        edges.refused("-1", () -> Check.told(NEXT_DEED), 2, NONE, made -> made.see(0, 0, -1));
        x.see(0, 1, 19);
        edges.same("not both", x.quick(0), 0);
        MarginWays y = Check.told(NEXT_DEED);
        y.see(0, 1, 0);
        edges.same("behind 0 days one is where one is", y.quick(0), 0);
    }

    private void quick() {
        edges.says("QUICK: PEOPLE and PACES (0 to 9, another one than one has) by one of which from now on all SEEN would be so: how many;");
        MarginWays x = Check.told(NEXT_DEED);
        edges.same("nothing seen: all but one's own", x.quick(0), 9);
        x.see(0, 1, 1);
        edges.same("1 to 9", x.quick(0), 9);
        x.see(0, 1, 0);
        edges.same("not all can be so", x.quick(0), 0);
        MarginWays nine = Check.told(NEXT_DEED + "goes pace=9;");
        nine.see(0, 1, 1);
        edges.same("9, too", nine.quick(0), 1);
        edges.same("9, too", nine.quick(1), 9);
        MarginWays zero = Check.told("deed 0;deed 0;stile 0 0;person 0 0 1 to 1 0;");
        zero.see(0, 0, 20);
        edges.same("0, too", zero.quick(0), 1);
        edges.same("0, too", zero.quick(1), 0);
        zero.forget();
        zero.see(0, 1, 20);
        edges.same("not the one that one has", zero.quick(0), 8);
        edges.same("not the one that one has", zero.quick(1), 2);
        MarginWays now = Check.told("deed 0;deed 0;stile 0 0;person 0 0 1 to 1 0;");
        now.see(0, 0, 0);
        edges.same("from now on", now.quick(2), 1);
        now.days(1);
        edges.same("from now on", now.quick(2), 0);
        now.undo();
        edges.same("what is seen stays, when acts are undone", now.quick(2), 1);
        MarginWays six = Check.told("deed 0;deed 0;stile 0 0;" + "person 0 0 0;".repeat(5) + "person 0 0 9 to 1 0;");
        edges.same("of six", six.quick(0), 54);
        for (int i = 0; i < 8; i++) {
            six.see(5, 0, 20 - i);
        }
        edges.same("eight are seen", six.quick(0), 1);
        edges.same("the sixth one", six.quick(1), 50);
        edges.says("the first (10 by who, and PACE);");
        MarginWays y = Check.told("deed 0;deed 0;deed 0;stile 0 0;stile 1 0;person 0 0 0 to 1 0;person 1 0 0 to 2 0;goes pace=3 or pace=7;");
        edges.same("nothing seen: the first one's 1", y.quick(1), 1);
        y.see(1, 2, 1);
        edges.same("of the second one", y.quick(0), 2);
        edges.same("of the second one", y.quick(1), 13);
        y.see(0, 1, 1);
        edges.same("only one of both is another one", y.quick(0), 0);
        edges.same("none", y.quick(1), NONE);
        edges.same("nobody", Check.told("deed 0;").quick(1), NONE);
        edges.same("nobody", Check.told("deed 0;").quick(0), 0);
        edges.says("whether it is so without (1).");
        edges.same("not so", y.quick(2), 0);
        y.forget();
        edges.same("nothing seen", y.quick(2), 1);
        y.see(0, 0, 20);
        edges.same("so", y.quick(2), 1);
        y.see(1, 2, 20);
        edges.same("one of both isn't", y.quick(2), 0);
        edges.same("nobody", new MarginWays().quick(2), 1);
    }

    private void lookNext() {
        edges.says("LOOK NEXT: the PERSON who behind 4 DAYS by these is at most unlike PLACES (of like ones the least): how many;");
        MarginWays x = Check.told(EIGHT + "person 0 0 0 to 0 7;goes day=3;");
        edges.same("on the fourth day by 1 to 9 steps, but 7 at most", x.look(1), 7);
        edges.same("one", x.look(0), 0);
        MarginWays y = Check.told(EIGHT + "person 0 0 0 to 0 7;goes day=4;");
        edges.same("not on the fifth any more", y.look(1), 1);
        MarginWays z = Check.told(EIGHT + "deed 0;person 1 0 1;person 0 0 1 to 0 7;person 0 0 1 to 0 7;");
        edges.same("of like ones the least", z.look(0), 1);
        edges.same("0, 4 (by another one's), 7", z.look(1), 3);
        z.see(1, 1, 0);
        edges.same("none by these", z.look(0), NONE);
        edges.same("none by these", z.look(1), 0);
        MarginWays v = Check.told(EIGHT + "deed 0 0;person 0 0 9 to 0 7;person 1 0 0 to 1 1;goes day<1 and (not far=7 or pace=1 or pace=9);");
        edges.same("the first one by 1, and as it is by the other one's", v.look(1), 3);
        MarginWays like = Check.told(EIGHT + "person 0 3 1;person 0 5 1;");
        edges.same("all at one place: the least", like.look(0), 0);
        edges.same("one place", like.look(1), 1);
        MarginWays only = Check.told(NEXT_DEED + "person 1 0 9;");
        only.see(0, 1, 1);
        edges.same("by these alone, not by how it is", only.look(1), 1);
        MarginWays nine = Check.told(EIGHT + "person 0 0 0 to 0 7;goes pace=9;");
        edges.same("9, too", nine.look(1), 2);
        MarginWays zero = Check.told(EIGHT + "person 0 0 9 to 0 7;goes pace=9 or pace<1;");
        edges.same("0, too", zero.look(1), 1);
        MarginWays later = Check.told(EIGHT + "person 0 0 0 to 0 7;");
        later.see(0, 0, 2);
        edges.same("behind 4 days from now, not from what was seen", later.look(1), 2);
        MarginWays six = Check.told(EIGHT + "person 0 0 0;".repeat(5) + "person 0 0 1 to 0 7;");
        edges.same("the sixth one", six.look(0), 5);
        edges.same("0, 4, 7", six.look(1), 3);
        edges.says("none without any.");
        edges.same("nobody", Check.told("deed 0;").look(0), NONE);
        edges.same("nobody", Check.told("deed 0;").look(1), 0);
        only.see(0, 0, 1);
        edges.same("nothing can be so", only.look(0), NONE);
        edges.same("nothing can be so", only.look(1), 0);
    }

    private void candles() {
        edges.says("CANDLES: on each of so many DAYS (1 to 5) there is none with so many tenths (0 to 10): nobody makes a STEP on it");
        String text = "deed 0 0 0;person 0 0 1 to 0 2;";
        MarginWays x = Check.told(text);
        edges.same("1 day", x.candles(0, 1, 3), 0);
        edges.same("2 days", x.candles(0, 2, 3), 49);
        edges.same("3 days", x.candles(0, 3, 3), 784);
        edges.same("4 days", x.candles(0, 4, 1), 9963);
        edges.same("5 days", x.candles(0, 5, 5), 81250);
        edges.same("0 tenths", x.candles(0, 5, 0), 100000);
        edges.same("10 tenths", x.candles(0, 5, 10), 0);
        edges.same("1 of 10", Check.told("deed 0 0;person 0 0 1 to 0 1;").candles(0, 1, 9), 1);
        edges.same("1 of 100000", Check.told("deed 0 0 0 0 0 0;person 0 0 1 to 0 5;").candles(0, 5, 9), 1);
        edges.illegal("0 days", text, made -> made.candles(0, 0, 5));
        edges.illegal("6 days", text, made -> made.candles(0, 6, 5));
        edges.illegal("-1 tenths", text, made -> made.candles(0, 1, -1));
        edges.illegal("11 tenths", text, made -> made.candles(0, 1, 11));
        edges.says("(all else as ever: who stands there has COME):");
        MarginWays there = Check.told("deed 3;person 0 0 9 to 0 0;");
        edges.same("who stands there, without any candle", there.candles(0, 1, 10), 10);
        MarginWays ink = Check.told("deed 0 1 0;person 0 0 9 to 0 2;fades 1;");
        edges.same("ink fades without a candle, too", ink.candles(0, 2, 3), 70);
        MarginWays met = Check.told("deed 0 0;person 0 0 9 to 0 1;person 0 0 0;goes met=2;");
        edges.same("one meets without a candle, too", met.candles(0, 3, 3), 700);
        MarginWays nobody = Check.told("deed 0 0;person 0 0 1 to 0 1;person 0 1 9 to 0 0;goes with=0 or pace=9;");
        edges.same("nobody makes a step, not one alone", nobody.candles(0, 1, 4), 6);
        edges.same("nobody makes a step, not one alone", nobody.candles(1, 1, 4), 6);
        edges.says("how likely one has COME, or isn't SENT anywhere, behind them: as so many of 10 to the power of these DAYS.");
        MarginWays stays = Check.told("deed 0;person 0 0 0;");
        int power = 1;
        for (int days = 1; days <= 5; days++) {
            power *= 10;
            edges.same("one who isn't sent", stays.candles(0, days, 3), power);
            edges.same("one who isn't sent", stays.candles(0, days, 10), power);
        }
        edges.same("never", Check.told("deed 0 0;person 0 0 0 to 0 1;").candles(0, 5, 0), 0);
        edges.same("not yet", x.candles(0, 1, 0), 0);
    }

    private void game() {
        edges.says("A GAME of two who are SENT somewhere: each stays from now on (SENT nowhere), or not (1, 0):");
        // the first one comes on the sixth day, or a day later; the other one has no way
        String sixth = "deed 0 0 0 0 0 0 0;deed 0 0 0;person 0 0 1 to 0 6;person 1 0 1 to 1 1;";
        MarginWays x = Check.told(sixth);
        x.type(11, 9);
        edges.same("the first one goes, whatever the other one does", x.game(0, 1, 0), 2);
        edges.same("the first one goes", x.game(0, 1, 1), 0);
        edges.same("told the other way", x.game(1, 0, 0), 2);
        edges.same("told the other way", x.game(1, 0, 1), 0);
        MarginWays stay = Check.told("deed 0 0;deed 0 7;person 0 0 1 to 0 1;person 1 0 1 to 1 1;person 0 0 0;");
        edges.same("the first one stays", stay.game(0, 1, 0), 2);
        edges.same("the first one's 1, the other one's 0", stay.game(0, 1, 1), 10);
        edges.same("the first one's 0, the other one's 1", stay.game(1, 0, 1), 1);
        edges.says("each gains 2 for each one whom one has MET in 6 DAYS from now, counted as told,");
        // who stays meets 6: 12; who goes comes on the third day, and meets 4 there: 13
        MarginWays y = Check.told("deed 0 0 0 0 0 0 0;deed 0 0;person 0 0 1 to 0 3;person 1 0 1 to 1 1;person 0 0 0;person 0 3 0;");
        edges.same("13 rather than 12", y.game(0, 1, 0), 1);
        edges.same("13 rather than 12", y.game(0, 1, 1), 0);
        y.send(0, 4);
        y.let(3, 4);
        edges.same("12 rather than 11", y.game(0, 1, 0), 1);
        edges.same("12 rather than 11", y.game(0, 1, 1), 10);
        y.days(1);
        y.let(0, 0);
        edges.same("from now: what was met ahead counts for nothing", y.game(0, 1, 1), NONE);
        y.undo();
        y.undo();
        edges.same("as it was", y.game(0, 1, 1), 10);
        edges.says("and 5, if one has COME in them.");
        edges.same("on the sixth day", x.game(0, 1, 0), 2);
        MarginWays late = Check.told("deed 0 0 0 0 0 0 0 0;deed 0 9;person 0 0 1 to 0 7;person 1 0 1 to 1 1;");
        edges.same("not on the seventh", late.game(0, 1, 0), 4);
        MarginWays there = Check.told("deed 3;deed 0 9;person 0 0 0 to 0 0;person 1 0 1 to 1 1;");
        edges.same("without a step", there.game(0, 1, 0), 2);
    }

    private void couples() {
        edges.says("A couple RESTS, if neither gains more by the other choice: how many; the first (10 by the first one's and the other one's);");
        MarginWays x = Check.told("deed 0;deed 0;person 0 0 1 to 1 0;person 1 0 1 to 0 0;");
        edges.same("all alike: all rest", x.game(0, 1, 0), 4);
        edges.same("the first", x.game(0, 1, 1), 0);
        MarginWays y = Check.told("deed 0 0 0;person 0 1 1 to 0 0;person 0 1 1 to 0 2;");
        edges.same("both go, or both stay", y.game(0, 1, 0), 2);
        edges.same("both go", y.game(0, 1, 1), 0);
        MarginWays z = Check.told("deed 0 0;person 0 0 1 to 0 1;person 0 1 1 to 0 0;");
        edges.same("one goes, and the other one stays", z.game(0, 1, 0), 2);
        edges.same("the other one stays", z.game(0, 1, 1), 1);
        MarginWays stay = Check.told("deed 0 0;deed 0 0;person 0 0 1 to 0 1;person 1 0 1 to 1 1;person 0 0 0;person 1 0 0;");
        edges.same("both stay", stay.game(0, 1, 0), 1);
        edges.same("both stay", stay.game(0, 1, 1), 11);
        // go, go: 13, 5; stay, go: 12, 5; go, stay: 5, 10; stay, stay: 12, 0
        MarginWays none = Check.told("deed 0 0 0 0;person 0 1 2 to 0 3;person 0 2 2 to 0 0;person 0 0 1 to 0 3;goes met=0;");
        edges.same("no couple", none.game(0, 1, 0), 0);
        edges.same("no couple", none.game(0, 1, 1), NONE);
        edges.says("none, if one isn't SENT.");
        MarginWays one = Check.told("deed 0 0;person 0 0 1 to 0 1;person 0 0 1;");
        for (int what = 0; what < 2; what++) {
            edges.same("the other one isn't", one.game(0, 1, what), NONE);
            edges.same("the first one isn't", one.game(1, 0, what), NONE);
        }
    }

    private void years() {
        edges.says("YEARS by a seed: n DAYS (0 to 60) from now on: ahead of each a DRAW of 5:");
        String text = "deed 3 0;person 0 0 1 to 0 1;person 0 1 0;";
        MarginWays x = Check.told(text);
        for (int what = 0; what < 3; what++) {
            int w = what;
            edges.same("no days", x.years(77, 0, what), what == 2 ? 1 : 0);
            edges.illegal("61", text, made -> made.years(77, 61, w));
            edges.illegal("-1", text, made -> made.years(77, -1, w));
        }
        // 1 draws 3 of 5 at first: nothing but the day itself
        edges.same("a day as ever", x.years(1, 1, 0), 1);
        edges.same("a day as ever", x.years(1, 1, 1), 2);
        x.days(1);
        edges.same("from now on", x.years(1, 1, 0), 0);
        edges.same("from now on: what was met ahead counts for nothing", x.years(1, 1, 1), 2);
        edges.says("how often one has COME in these DAYS; how many all have MET in them; at how many PLACES there is INK at the end.");
        for (int seed : new int[] {0, 1, 2, 5, 77, -1, 123456789, Integer.MIN_VALUE, Integer.MAX_VALUE}) {
            for (int n : new int[] {1, 2, 7, 20, 59, 60}) {
                one(seed, n);
            }
        }
    }

    private int seed = 0;

    private int draw(int n) {
        seed = (int) (seed * 1103515245L + 12345L);
        return (int) ((seed & 0x7fffffffL) / 65536 % n);
    }

    /** One place of one deed, with two people or nobody: all can be told by the draws alone. */
    private void one(int first, int n) {
        MarginWays two = Check.told("deed 2;person 0 0 1;person 0 0 0;");
        MarginWays nobody = Check.told("deed 2;");
        int come = 0;
        int ink = 2;
        seed = first;
        for (int day = 0; day < n; day++) {
            int kind = draw(5);
            if (kind == 0) {
                draw(2);
            }
            if (kind < 2) {
                draw(1);
                draw(1);
            }
            come += kind == 0 ? 1 : 0;
            ink = kind == 1 ? draw(4) : ink;
            ink -= day % 5 == 4 && ink > 0 ? 1 : 0;
        }
        edges.same("years(" + first + ", " + n + ", 0)", two.years(first, n, 0), come);
        edges.same("years(" + first + ", " + n + ", 1)", two.years(first, n, 1), 2 * n);
        edges.same("years(" + first + ", " + n + ", 2)", two.years(first, n, 2), ink > 0 ? 1 : 0);
        ink = 2;
        seed = first;
        for (int day = 0; day < n; day++) {
            if (draw(5) == 1) {
                draw(1);
                draw(1);
                ink = draw(4);
            }
            ink -= day % 5 == 4 && ink > 0 ? 1 : 0;
        }
        edges.same("nobody: years(" + first + ", " + n + ", 0)", nobody.years(first, n, 0), 0);
        edges.same("nobody: years(" + first + ", " + n + ", 1)", nobody.years(first, n, 1), 0);
        edges.same("nobody: years(" + first + ", " + n + ", 2)", nobody.years(first, n, 2), ink > 0 ? 1 : 0);
    }

    /** The least seed from 0 on whose first draws are these, each of so many. */
    private int seedOf(int... drawsAndBounds) {
        for (int first = 0; first < 10_000_000; first++) {
            seed = first;
            boolean fits = true;
            for (int i = 0; i < drawsAndBounds.length && fits; i += 2) {
                fits = draw(drawsAndBounds[i + 1]) == drawsAndBounds[i];
            }
            if (fits) {
                return first;
            }
        }
        throw new IllegalStateException("no such seed");
    }

    private void draws() {
        edges.says("0 a DRAW of PEOPLE is SENT to a DRAW of the PLACES that a DRAW of DEEDS has, also to where that one is (PEOPLE, DEEDS, PLACES are drawn so, one behind the other);");
        // the second of three people, the second of two deeds, its last place of three: one step, and one comes
        String three = "deed 0;deed 0 0 0;person 0 0 9;person 1 1 1;person 0 0 0;";
        edges.same("one comes", Check.told(three).years(seedOf(0, 5, 1, 3, 1, 2, 2, 3), 1, 0), 1);
        edges.same("who cannot go doesn't", Check.told(three).years(seedOf(0, 5, 2, 3, 1, 2, 2, 3), 1, 0), 0);
        edges.same("to where one is", Check.told(three).years(seedOf(0, 5, 2, 3, 0, 2, 0, 1), 1, 0), 1);
        edges.same("in place of another one", Check.told("deed 0 0;person 0 0 9 to 0 1;").years(seedOf(0, 5, 0, 1, 0, 1, 0, 2), 1, 0), 1);
        MarginWays away = Check.told("deed 0 0 0;person 0 0 1;person 0 1 0;goes 1;");
        edges.same("one goes to another one", away.years(seedOf(0, 5, 0, 2, 0, 1, 1, 3), 1, 1), 2);
        edges.same("one goes not so far", away.years(seedOf(0, 5, 1, 2, 0, 1, 0, 3), 1, 1), 0);
        edges.says("1 INK of a PLACE (DEEDS, then PLACES that it has are drawn) is a DRAW of 4:");
        String inks = "deed 0;deed 0 1 1;fades 0;";
        edges.same("3 where it was white", Check.told(inks).years(seedOf(1, 5, 1, 2, 0, 3, 3, 4), 1, 2), 3);
        edges.same("0 where there was ink", Check.told(inks).years(seedOf(1, 5, 1, 2, 2, 3, 0, 4), 1, 2), 1);
        edges.same("1 where there was ink", Check.told(inks).years(seedOf(1, 5, 1, 2, 2, 3, 1, 4), 1, 2), 2);
        edges.same("0 where it was white", Check.told(inks).years(seedOf(1, 5, 0, 2, 0, 1, 0, 4), 1, 2), 2);
        edges.same("3, less by 1, less by 1", Check.told("deed 0;fades 1;").years(seedOf(1, 5, 0, 1, 0, 1, 3, 4, 2, 5), 2, 2), 1);
        edges.same("2, less by 1, less by 1", Check.told("deed 0;fades 1;").years(seedOf(1, 5, 0, 1, 0, 1, 2, 4, 2, 5), 2, 2), 0);
        edges.same("ahead of the day: who would go can't", Check.told("deed 0 0;person 0 0 1 to 0 1;").years(seedOf(1, 5, 0, 1, 1, 2, 3, 4), 1, 0), 0);
        for (int kind = 2; kind < 5; kind++) {
            edges.same("nothing by " + kind, Check.told("deed 5;person 0 0 0;fades 0;").years(seedOf(kind, 5), 1, 0), 0);
            edges.same("nothing by " + kind, Check.told("deed 5;person 0 0 0;fades 0;").years(seedOf(kind, 5), 1, 2), 1);
        }
        edges.says("A seed becomes itself times 1103515245 and 12345 (an int that wraps); a DRAW of n is its bits 16 to 30 MOD n then.");
        MarginWays y = Check.told("deed 2;person 0 0 1;");
        // 0: 12345, bits 0: a draw of 5 is 0, so one comes
        edges.same("0", y.years(0, 1, 0), 1);
        // 1: 1103527590, bits 16838: 3
        edges.same("1", y.years(1, 1, 0), 0);
        // 2: 2207042835 wraps to -2087924461, bits 909: 4
        edges.same("2", y.years(2, 1, 0), 0);
        // -1: -1103502900, bits 15929: 4
        edges.same("-1", y.years(-1, 1, 0), 0);
        // 8: bits 3638 of 238187713: 3; 3: -984409216: bits 17747: 2
        edges.same("8", y.years(8, 1, 0), 0);
        edges.says("(Without PEOPLE nothing is drawn behind 0, without DEEDS nothing behind 0 and 1.)");
        // 0 at first; then at once 1 of 5, and ink of 3: were three more drawn, all would be otherwise
        int first = seedOf(0, 5, 1, 5, 0, 1, 0, 1, 3, 4);
        edges.same("nobody", Check.told("deed 0;fades 0;").years(first, 2, 2), 1);
        edges.same("no deeds", new MarginWays().years(first, 60, 0), 0);
        edges.same("no deeds", new MarginWays().years(first, 60, 1), 0);
        edges.same("no deeds", new MarginWays().years(seedOf(1, 5), 60, 2), 0);
    }

    private void status() {
        edges.says("STATUS: how many calls were refused: 0 of TEXTS with a FAULT, 1 of ACTS, 2 of what is SEEN.");
        MarginWays x = Check.told("deed 0;person 0 0 0;");
        Check.cellar(x, "deed");
        x.days(0);
        x.type(0, 10);
        x.let(0, 0);
        x.see(0, 0, 21);
        x.see(0, 0, -1);
        edges.same("texts", x.count(11), 1);
        edges.same("acts", x.count(12), 3);
        edges.same("seen", x.count(13), 2);
        x.undo();
        x.restore();
        x.comes(0);
        for (int i = 0; i < 36; i++) {
            x.feed(0, 0, 0, 0, 0);
        }
        edges.same("neither undo() nor restore() nor feed() nor a question counts", x.count(11) + x.count(12) + x.count(13), 6);
    }
}
