/** The document's terms: what a text can tell, its TOKENS, its EXPR and its FAULTS. */
final class EdgeOfText {
    private static final String SIX_DEEDS = "deed 0;".repeat(6);
    private static final String TWO_DEEDS = "deed 0;deed 0;";
    private static final String SIX_PEOPLE = "deed 0;" + "person 0 0 0;".repeat(6);

    private final Edges edges;

    EdgeOfText(Edges edges) {
        this.edges = edges;
    }

    void all() {
        edges.in("## Terms");
        deeds();
        people();
        tokens();
        lines();
        expressions();
        operators();
        valuesOfGoes();
        valuesOfFades();
        cannotStand();
        everyBeginning();
        tooMuch();
        notThere();
        twice();
        firstAndLeast();
    }

    private void deeds() {
        edges.says("DEEDS 0, 1 .. (at most 6)");
        MarginWays six = Check.told("deed 1;deed 2;deed 3;deed 4;deed 5;deed 6;");
        edges.same("six", six.count(0), 6);
        for (int deed = 0; deed < 6; deed++) {
            edges.same("by number", six.ink(10 * deed), deed + 1);
        }
        edges.same("none", Check.told("").count(0), 0);
        edges.fault(2, SIX_DEEDS + "|deed 0;");
        edges.says(", each with 1 to 8 PLACES");
        edges.same("one", Check.told("deed 0;").deed(0, 0), 1);
        edges.same("eight", Check.told("deed 0 0 0 0 0 0 0 0;").deed(0, 0), 8);
        edges.fault(1, "deed |;");
        edges.fault(2, "deed 0 0 0 0 0 0 0 0 |0;");
        MarginWays full = Check.told(("deed" + " 7".repeat(8) + ";").repeat(6));
        edges.same("six by eight", full.count(5), 48);
        edges.same("the last place", full.ink(57), 7);
        edges.says(", one below the other (0 on): what is typed over each (INK 0 to 9; 0: it is white).");
        MarginWays x = Check.told("deed 9 0 1;");
        edges.same("the first place is 0", x.ink(0), 9);
        edges.same("0 is white", x.deed(0, 1), 2);
        edges.same("one with 1 is not white", x.count(5), 2);
        edges.fault(2, "deed |10;");
        edges.says("STILES: a PLACE of a DEED and the same one of the next DEED (by number), if both are there.");
        MarginWays y = Check.told("deed 0 0;deed 0 0 0;deed 0 0 0;stile 0 1;stile 1 2;");
        edges.same("the same place of the next deed", y.way(1, 11, 0), 1);
        edges.same("and back", y.way(11, 1, 0), 1);
        edges.same("not another place", y.way(0, 11, 0), 2);
        edges.same("of the next ones", y.way(12, 22, 0), 1);
        edges.same("not of the deed behind the next one", y.way(1, 21, 0), 4);
        edges.fault(3, "deed 0 0;deed 0 0 0;stile 0 |2;");
    }

    private void people() {
        edges.says("PEOPLE 0, 1 .. (at most 6): a DEED and a PLACE where one is, PACE (0 to 9), perhaps a DEED and a PLACE to which one is SENT.");
        MarginWays x = Check.told("deed 0 0;deed 0 3;person 0 0 0;person 0 1 9;person 1 0 1 to 1 1;person 1 1 2 to 1 1;person 0 0 3;"
            + "person 1 1 8 to 0 0;");
        edges.same("six", x.count(1), 6);
        int[][] due = {{0, 0, -1}, {1, 9, -1}, {10, 1, 11}, {11, 2, 11}, {0, 3, -1}, {11, 8, 0}};
        for (int who = 0; who < 6; who++) {
            for (int what = 0; what < 3; what++) {
                edges.same("person(" + who + ", " + what + ")", x.person(who, what), due[who][what]);
            }
        }
        edges.same("nobody", Check.told("deed 0;").count(1), 0);
        edges.fault(2, SIX_PEOPLE + "|person 0 0 0;");
        edges.fault(2, "deed 0;person 0 0 |10;");
        edges.says("Rules: GOES, FADES.");
        MarginWays y = Check.told("deed 0 0 9;person 0 0 9 to 0 1;goes 0;fades 9;");
        edges.same("goes", y.gone(0, 5), 0);
        edges.same("fades", y.clear(2), 1);
    }

    private void tokens() {
        edges.says("A TEXT of at most 700 bytes tells it.");
        MarginWays x = Check.told("deed 0;" + " ".repeat(686) + "deed 5;");
        edges.same("all 700 bytes", x.count(0), 2);
        edges.same("the 699th byte", x.ink(10), 5);
        edges.fault(1, "deed 0;" + " ".repeat(692) + "|;");
        MarginWays y = Check.told("deed 0 0;person 0 0 1 to 0 1;goes " + "1+".repeat(332) + "1;");
        edges.same("an EXPR of 665 signs", y.gone(0, 1), 1);
        edges.says("TOKENS: words (a .. z, the longest row),");
        edges.fault(3, "fades |a;");
        edges.fault(3, "fades |z;");
        edges.fault(3, "fades |inkz;");
        edges.fault(3, "fades |aink;");
        edges.fault(3, "goes |notnot 1;");
        edges.fault(1, "|deeds 0;");
        edges.fault(1, "|deedstile 0;");
        edges.fault(1, "deed 0;person 0 0 1 |too 0 0;");
        edges.fault(1, "deed 0;|`");
        edges.fault(1, "deed 0;|{");
        edges.fault(1, "deed 0;|Deed 0;");
        edges.fault(1, "deed|D 0;");
        edges.fine("goes 1or 2and not 3;");
        edges.fine("goes not1;");
        edges.says("NUMBERS (1 to 4 digits),");
        edges.fine("deed 0 00 000 0000;");
        edges.fine("goes 0000 + 9999;");
        edges.same("0009 is 9", Check.told("deed 0009 9;").ink(0), 9);
        edges.fault(2, "deed |00000;");
        edges.fault(1, "deed 0 |/;");
        edges.fault(1, "deed 0 |:;");
        edges.same("digits side by side are one number", Check.told("deed 0;person 0 0 0009;").person(0, 1), 9);
        edges.fault(2, "deed |0123 4;");
        edges.says("signs ; ( ) + - * / < = ;");
        edges.fine("goes (1+2-3*4/5<6)=7;");
        for (char sign : "!\"#$%&',.:>?@[\\]^_`{|}~".toCharArray()) {
            MarginWays y2 = new MarginWays();
            edges.same("no sign: " + sign, Check.cellar(y2, "goes 1" + sign + "1;"), 1);
            edges.same("its place: " + sign, y2.fault(), 6);
        }
        edges.says("blanks (32, 10) between them count for nothing.");
        edges.fine(" \n deed\n\n0 \n; ");
        edges.fine("deed0;");
        edges.fine("goes1and2;");
        edges.fine("\n");
        edges.fault(1, "|de ed 0;");
        edges.fault(1, "goes 1 |2;");
        for (int sign : new int[] {0, 1, 9, 11, 12, 13, 31, 33, 127, 128, 133, 138, 160, 255}) {
            edges.fault(1, "deed|" + (char) sign + "0;");
        }
        edges.says("In quotes is what stands there, [ ] perhaps, * any number of times, | one of some.");
        edges.fine("deed 0;person 0 0 1;person 0 0 1 to 0 0;");
        edges.fault(1, "deed 0;person 0 0 1 to 0 0 |to 0 0;");
    }

    private void lines() {
        edges.says("CELLAR: LINE*.");
        edges.fine("");
        edges.fine("   ");
        edges.fine("deed 0;");
        edges.fine("fades 1;deed 0;person 0 0 0;deed 0;goes 1;stile 0 0;person 1 0 0;");
        edges.fault(1, "deed 0;|;");
        edges.fault(1, "|;");
        edges.fault(1, "|0;");
        edges.fault(1, "|to 0 0;");
        edges.fault(1, "|line;");
        edges.says("LINE: ('deed' INK INK* | 'stile' DEED PLACE | 'person' DEED PLACE PACE ['to' DEED PLACE] | ('goes' | 'fades') EXPR) ';',");
        edges.fine(TWO_DEEDS + "stile 0 0;person 0 0 0;person 0 0 0 to 1 0;goes 1;fades 1;");
        edges.fault(1, "deed 0|");
        edges.fault(1, "deed 0 |deed 0;");
        edges.fault(1, TWO_DEEDS + "stile |;");
        edges.fault(1, TWO_DEEDS + "stile 0|;");
        edges.fault(1, TWO_DEEDS + "stile 0 0 |0;");
        edges.fault(1, TWO_DEEDS + "stile 0 0|");
        edges.fault(1, TWO_DEEDS + "person |;");
        edges.fault(1, TWO_DEEDS + "person 0 |;");
        edges.fault(1, TWO_DEEDS + "person 0 0|;");
        edges.fault(1, TWO_DEEDS + "person 0 0 |to 0 0;");
        edges.fault(1, TWO_DEEDS + "person 0 0 0 |0;");
        edges.fault(1, TWO_DEEDS + "person 0 0 0 to|;");
        edges.fault(1, TWO_DEEDS + "person 0 0 0 to 0|;");
        edges.fault(1, TWO_DEEDS + "person 0 0 0 to 0 0 |0;");
        edges.fault(1, TWO_DEEDS + "person 0 0 0 to 0 0|");
        edges.fault(1, "goes |;");
        edges.fault(1, "fades |;");
        edges.fault(1, "goes 1|");
        edges.fault(1, "goes 1 |goes 1;");
        edges.says("all in capitals but EXPR being NUMBERS;");
        edges.fault(1, "deed |ink;");
        edges.fault(1, TWO_DEEDS + "stile |deed 0;");
        edges.fault(1, TWO_DEEDS + "stile 0 |place;");
        edges.fault(1, TWO_DEEDS + "person |a 0 0;");
        edges.fault(1, TWO_DEEDS + "person 0 |a 0;");
        edges.fault(1, TWO_DEEDS + "person 0 0 |pace;");
        edges.fault(1, TWO_DEEDS + "person 0 0 0 to |a 0;");
        edges.fault(1, TWO_DEEDS + "person 0 0 0 to 0 |(0);");
        edges.fault(1, "deed |-1;");
        edges.says("the DEED of a 'stile' is the first one of both.");
        MarginWays x = Check.told("deed 0 0;deed 0 0;deed 0 0;stile 1 1;");
        edges.same("of the first one of both", x.deed(1, 2), 2);
        edges.same("not of the other one", x.deed(2, 2), 0);
        edges.same("from the first one to the next one", x.way(11, 21, 0), 1);
        edges.same("not to the one ahead", x.way(11, 1, 0), -1);
    }

    private void expressions() {
        edges.says("EXPR: AND ('or' AND)*.");
        edges.gives("0 or 0", 0);
        edges.gives("0 or 0 or 7", 1);
        edges.gives("1 or 0 and 0", 1);
        edges.gives("(1 or 0) and 0", 0);
        edges.fault(3, "goes 1 or |or;");
        edges.says("AND: NOT ('and' NOT)*.");
        edges.gives("1 and 2 and 3", 1);
        edges.gives("1 and 2 and 0", 0);
        edges.gives("not 0 and 0", 0);
        edges.says("NOT: 'not' NOT | SUM [('<' | '=') SUM].");
        edges.gives("not not 5", 1);
        edges.gives("not 1<0", 1);
        edges.gives("not 0=0", 0);
        edges.gives("not not not not not not 3", 1);
        edges.gives("1+1<2+1", 1);
        edges.gives("4-1=1+2", 1);
        edges.fault(1, "goes 1<2|<3;");
        edges.fault(1, "goes 1=2|<3;");
        edges.fault(1, "goes not 1=2|=3;");
        edges.gives("(1<2)<3", 1);
        edges.gives("(3<2)=0", 1);
        edges.fault(3, "goes 1<|not 2;");
        edges.says("SUM: PRODUCT (('+' | '-') PRODUCT)*.");
        edges.gives("9-4-3", 2);
        edges.gives("9-4+3", 8);
        edges.gives("1+2*3", 7);
        edges.gives("20-9/2", 16);
        edges.fault(1, "goes |+1;");
        edges.fault(1, "goes 1-|-1;");
        edges.fault(3, "goes 1+|not 1;");
        edges.says("PRODUCT: PART (('*' | '/') PART)*.");
        edges.gives("8/2*4", 16);
        edges.gives("8/(2*4)", 1);
        edges.gives("7*3/2", 10);
        edges.gives("100/5/4", 5);
        edges.fault(1, "goes |*1;");
        edges.fault(3, "goes 2*|not 1;");
        edges.says("PART: NUMBER | VALUE | '(' EXPR ')'.");
        edges.gives("((((9999))))", 9999);
        edges.gives("(1 or 0)*(not 0)", 1);
        edges.fault(1, "goes (|);");
        edges.fault(1, "goes (1|;");
        edges.fault(1, "goes 1|);");
        edges.fault(1, "goes (1)|(2);");
        edges.fault(1, "goes 1 |pace;");
    }

    private void operators() {
        edges.says("From the left;");
        edges.gives("2-1-1", 0);
        edges.gives("9/3/3", 1);
        edges.gives("9/2*2", 8);
        edges.says("ints that wrap,");
        edges.gives("9999*9999*9999", 9999 * 9999 * 9999);
        edges.gives("4096*4096*128", Integer.MIN_VALUE);
        edges.gives("4096*4096*128-1", Integer.MAX_VALUE);
        edges.gives("0-4096*4096*128", Integer.MIN_VALUE);
        edges.gives("4096*4096*256", 0);
        edges.gives("4096*4096*127+4096*4095+4095+1", Integer.MAX_VALUE - 4096 * 4096 + 1 + 4096 * 4095 + 4096);
        edges.gives("4096*4096*128/(0-1)", Integer.MIN_VALUE);
        edges.says("/ cut down to 0,");
        edges.gives("7/2", 3);
        edges.gives("(0-7)/2", -3);
        edges.gives("7/(0-2)", -3);
        edges.gives("(0-7)/(0-2)", 3);
        edges.gives("(0-1)/2", 0);
        edges.says("by 0 gives 0;");
        edges.gives("7/0", 0);
        edges.gives("0/0", 0);
        edges.gives("(0-7)/(1-1)", 0);
        edges.gives("7/0+2", 2);
        edges.says("tests, not, and, or are 1 or 0 (what isn't 0 holds).");
        edges.gives("2<3", 1);
        edges.gives("3<3", 0);
        edges.gives("4<3", 0);
        edges.gives("0-1<0", 1);
        edges.gives("3=3", 1);
        edges.gives("3=4", 0);
        edges.gives("not 0", 1);
        edges.gives("not 2", 0);
        edges.gives("not (0-1)", 0);
        edges.gives("2 and 4", 1);
        edges.gives("2 and 0", 0);
        edges.gives("0 and 2", 0);
        edges.gives("(0-1) and (0-2)", 1);
        edges.gives("2 or 4", 1);
        edges.gives("2 or 0", 1);
        edges.gives("0 or 4", 1);
        edges.gives("0 or 0", 0);
        edges.gives("(0-1) or 0", 1);
    }

    /** How many STEPS the second one of three makes on a DAY, by a rule. */
    private static int steps(String goes, int days) {
        MarginWays x = Check.told("deed 0 0 0 0 0 0 0 0;deed 0;person 0 0 0;person 0 0 6 to 0 7;person 0 3 0;goes " + goes + ";");
        return x.gone(1, days);
    }

    private void valuesOfGoes() {
        edges.says("VALUES of GOES, for a PERSON ahead of a step: 'pace',");
        edges.same("one's own", steps("pace=6", 1), 6);
        edges.same("pace is not steps left", steps("steps<pace-4", 1), 2);
        edges.says("'steps' (how many one has made on this DAY),");
        edges.same("0 at first", steps("steps=0", 1), 1);
        edges.same("ahead of the third 2", steps("steps<2", 1), 2);
        edges.same("anew on the next day", steps("steps<1", 3), 3);
        edges.says("'far' (how many steps it is still),");
        edges.same("7 at first", steps("far=7", 1), 1);
        edges.same("then one less", steps("2<far", 1), 5);
        edges.same("1 ahead of the last one", steps("far", 2), 7);
        edges.says("'with' (how many others are at one's PLACE),");
        edges.same("one other at first, none then", steps("with", 1), 1);
        edges.same("none on the way but at 3", steps("with<1 or steps<1", 1), 3);
        MarginWays x = Check.told("deed 0 0;person 0 0 0;person 0 0 1 to 0 1;person 0 0 0;goes with=2;");
        edges.same("oneself not counted", x.gone(1, 1), 1);
        edges.says("'met' (how many one has MET in all),");
        edges.same("0 on the first day", steps("met", 1), 0);
        edges.same("1 on the second", steps("met=1", 2), 6);
        MarginWays y = Check.told("deed 0 0;person 0 0 1;person 0 0 1 to 0 1;person 0 0 1;goes met=6;");
        edges.same("of all days, more than one a day", y.comes(1), 4);
        edges.says("'day';");
        edges.same("0 at first", steps("day=0", 1), 6);
        edges.same("not on the second", steps("day", 1), 0);
        edges.same("1 on the second", steps("day=1", 2), 6);
    }

    /** INK 5 at place 2 of deed 1 behind a day; two are there behind its STEPS, and one at another place. */
    private static int inkBy(String fades) {
        MarginWays x = Check.told("deed 0 0;deed 0 0 5 4;person 1 2 0;person 1 2 0;person 1 2 1 to 1 1;fades " + fades + ";");
        x.days(1);
        return x.ink(12);
    }

    private void valuesOfFades() {
        edges.says("of FADES, for a PLACE with INK: 'ink', 'place', 'deed',");
        edges.same("ink", inkBy("ink-2"), 2);
        edges.same("place", inkBy("place"), 3);
        edges.same("deed", inkBy("deed"), 4);
        edges.says("'with' (how many are there behind the STEPS of that DAY),");
        edges.same("two", inkBy("with"), 3);
        MarginWays x = Check.told("deed 0 7 0;person 0 1 1 to 0 0;fades with;");
        x.days(1);
        edges.same("who has gone is not there", x.ink(1), 7);
        MarginWays y = Check.told("deed 7;person 0 0 0;fades with;");
        y.days(1);
        edges.same("all who are there, not others alone", y.ink(0), 6);
        edges.says("'day'.");
        edges.same("0 on the first day", inkBy("day"), 5);
        MarginWays z = Check.told("deed 9;fades day;");
        z.days(4);
        edges.same("0, 1, 2, 3", z.ink(0), 3);
    }

    private void cannotStand() {
        edges.says("1 a TOKEN that can't stand there,");
        edges.fault(1, "|stiles 0;");
        edges.fault(1, "deed 0 |+;");
        edges.fault(1, "deed 0 |(1);");
        edges.fault(1, "|12345;");
        edges.fault(1, TWO_DEEDS + "stile 0 0 |12345;");
        edges.fault(1, "goes 1 |12345;");
        edges.fault(1, "goes 1 |not 1;");
        edges.fault(1, "goes |);");
        edges.fault(1, "goes 1 |to;");
        edges.fault(1, "goes ((((((|);");
        edges.fault(1, "goes ((((((|+1;");
        edges.fault(1, "goes not not not not not not |;");
        edges.says("or is none");
        edges.fault(1, "deed 0|,0;");
        edges.fault(1, "deed 0;|D");
        edges.fault(1, "goes |?;");
        edges.fault(1, "goes |Pace;");
        edges.fault(1, "goes pace|C;");
        edges.fault(1, "goes ((((((|" + (char) 200 + "1;");
        edges.fault(1, "deed 0 0 0 0 0 0 0 0 |" + (char) 0 + "0;");
        edges.says("(the text's length where it ends too soon);");
        edges.fault(1, "deed|");
        edges.fault(1, "deed 0|");
        edges.fault(1, "deed 0   |");
        edges.fault(1, "deed 0\n\n|");
        edges.fault(1, "goes ((((((|");
        edges.fault(1, "goes not not not not not not|");
        edges.fault(1, "goes 1" + " ".repeat(694) + "|");
        edges.fault(1, "deed 0 0 0 0 0 0 0 0|");
        MarginWays x = new MarginWays();
        Check.feed(x, "deed 0 0 0;         ");
        edges.same("the text is the first bytes alone", x.cellar(8), 1);
        edges.same("its length, not the tape's", x.fault(), 8);
    }

    /** Every beginning of a text that is cut off: behind a whole TOKEN it ends too soon, within a word that isn't one. */
    private void everyBeginning() {
        String text = "deed 0 ;deed 0;stile 0 0;person 0 0 1 to 1 0;goes not(pace);fades 1;";
        int token = 0;
        for (int length = 0; length <= text.length(); length++) {
            char last = length == 0 ? ';' : text.charAt(length - 1);
            char next = length == text.length() ? ';' : text.charAt(length);
            boolean letter = Character.isLetter(last);
            if (letter && (length < 2 || !Character.isLetter(text.charAt(length - 2)))) {
                token = length - 1;
            }
            String start = text.substring(0, length);
            if (last == ';') {
                edges.fine(start);
            } else if (letter && Character.isLetter(next)) {
                boolean part = token >= text.indexOf("not") && token <= text.indexOf("pace");
                edges.fault(part ? 3 : 1, start.substring(0, token) + "|" + start.substring(token));
            } else {
                edges.fault(1, start + "|");
            }
        }
    }

    private void tooMuch() {
        edges.says("2 one that can, but is too much: a NUMBER of 5 digits or more,");
        edges.fault(2, "deed |00000;");
        edges.fault(2, "deed 0 |12345;");
        edges.fault(2, "deed |" + "0".repeat(600) + ";");
        edges.fault(2, TWO_DEEDS + "stile |00000 0;");
        edges.fault(2, TWO_DEEDS + "stile 0 |00000;");
        edges.fault(2, TWO_DEEDS + "person |00000 0 0;");
        edges.fault(2, TWO_DEEDS + "person 0 |00000 0;");
        edges.fault(2, TWO_DEEDS + "person 0 0 |00000;");
        edges.fault(2, TWO_DEEDS + "person 0 0 0 to |00000 0;");
        edges.fault(2, TWO_DEEDS + "person 0 0 0 to 0 |00000;");
        edges.fault(2, "goes |00000;");
        edges.fault(2, "goes 1*|10000;");
        edges.fault(2, "fades (not |4294967297);");
        edges.fine("goes 9999;");
        edges.says("or (not in an EXPR) not as told,");
        edges.fault(2, "deed |10;");
        edges.fault(2, "deed 9 |10;");
        edges.fault(2, "deed |9999;");
        edges.fault(2, "deed 0;person 0 0 |10;");
        edges.fault(2, "deed 0;person 0 0 |9999 to 9 9;");
        edges.fine("deed 9;person 0 0 9;");
        edges.fine("goes 10+9999;");
        edges.says("the first TOKEN of the 7th DEED,");
        edges.fault(2, SIX_DEEDS + "|deed 0;");
        edges.fault(2, SIX_DEEDS + "|deed 10;");
        edges.fault(2, SIX_DEEDS + "|deed");
        edges.fault(1, SIX_DEEDS + "|deeds 0;");
        edges.fine(SIX_DEEDS + "person 5 0 0;goes 1;");
        edges.says("the 7th PERSON,");
        edges.fault(2, SIX_PEOPLE + "|person 0 0 0;");
        edges.fault(2, SIX_PEOPLE + "|person 9 9 99;");
        edges.fault(2, SIX_PEOPLE + "|person");
        edges.fine(SIX_PEOPLE + "deed 0;stile 0 0;");
        edges.says("the 9th PLACE of a DEED,");
        edges.fault(2, "deed 0 0 0 0 0 0 0 0 |0;");
        edges.fault(2, "deed 0 0 0 0 0 0 0 0 |9 9 9;");
        edges.fault(2, "deed 0;deed 0 0 0 0 0 0 0 0 |99999;");
        edges.fault(1, "deed 0 0 0 0 0 0 0 0 |x;");
        edges.fine("deed 0 0 0 0 0 0 0 0;deed 0 0 0 0 0 0 0 0;");
        edges.says("of an EXPR within 6 others (a NUMBER, any word, a parenthesis),");
        edges.fine("goes (((((1)))));");
        edges.fine("goes (((((1)))))+(((((1)))))*(((((1)))));");
        edges.fine("fades (1+(1+(1+(1+(1+ink)))));");
        edges.fault(2, "goes ((((((|1))))));");
        edges.fault(2, "goes ((((((|12345");
        edges.fault(2, "goes ((((((|pace))))));");
        edges.fault(2, "goes ((((((|not 1))))));");
        edges.fault(2, "goes ((((((|or");
        edges.fault(2, "goes ((((((|ink");
        edges.fault(2, "goes ((((((|(1)))))));");
        edges.fault(2, "fades 1<(1 or not (1 and (1+(1*(1-(|1);");
        edges.fault(2, "goes (((((1)))))+((((((|1;");
        edges.says("the seventh 'not' side by side;");
        edges.fine("goes not not not not not not 1;");
        edges.fault(2, "goes not not not not not not |not 1;");
        edges.fault(2, "goes not not not not not not |not not 1;");
        edges.fault(2, "goes 1 and not not not not not not |not 1;");
        edges.fault(2, "fades (not not not not not not |not");
        edges.fine("goes not not not not not not 1 or not not not not not not 1;");
        edges.fine("goes not not not (not not not (not not not 1));");
        edges.fault(3, "goes not not not not not not |or;");
    }

    private void notThere() {
        edges.says("3 any word where a PART must stand that is no VALUE of this EXPR,");
        for (String word : new String[] {"ink", "place", "deed", "or", "and", "to", "x", "goes", "paces", "pac", "step"}) {
            edges.fault(3, "goes |" + word + ";");
            edges.fault(3, "goes 1+(2*|" + word + ");");
        }
        for (String word : new String[] {"pace", "steps", "far", "met", "or", "and", "to", "x", "person", "inks", "plac"}) {
            edges.fault(3, "fades |" + word + ";");
            edges.fault(3, "fades not 1=|" + word + ";");
        }
        edges.fine("goes pace+steps+far+with+met+day;");
        edges.fine("fades ink+place+deed+with+day;");
        edges.fault(3, "goes 1;fades |pace;");
        edges.fault(3, "fades ink;goes |ink;");
        edges.fault(3, "goes 1-|not 1;");
        edges.fault(3, "goes 1*|not 1;");
        edges.says("a DEED that isn't told ahead");
        edges.fault(3, "person |0 0 0;deed 0;");
        edges.fault(3, "deed 0;person |1 0 0;deed 0;");
        edges.fault(3, "deed 0;person 0 0 0 to |1 0;deed 0;");
        edges.fault(3, "deed 0;person |6 0 0;");
        edges.fault(3, "deed 0;person |9999 0 0;");
        edges.fine(TWO_DEEDS + "person 1 0 0;person 0 0 0 to 1 0;");
        edges.says("(the first one of a 'stile': the next one, too),");
        edges.fault(3, "stile |0 0;");
        edges.fault(3, "deed 0;stile |0 0;deed 0;");
        edges.fault(3, TWO_DEEDS + "stile |1 0;");
        edges.fault(3, TWO_DEEDS + "stile |2 0;");
        edges.fault(3, SIX_DEEDS + "stile |5 0;");
        edges.fault(3, SIX_DEEDS + "stile |9999 0;");
        edges.fine(SIX_DEEDS + "stile 4 0;");
        edges.says("a PLACE that it hasn't, however great");
        edges.fault(3, "deed 0;person 0 |1 0;");
        edges.fault(3, "deed 0 0 0 0 0 0 0 0;person 0 |8 0;");
        edges.fault(3, "deed 0 0;deed 0;person 1 |1 0;");
        edges.fault(3, "deed 0;person 0 |10 0;");
        edges.fault(3, "deed 0;person 0 |9999 0;");
        edges.fault(3, "deed 0;person 0 0 0 to 0 |1;");
        edges.fault(3, "deed 0;person 0 0 0 to 0 |9999;");
        edges.fine("deed 0;deed 0 0 0 0 0 0 0 0;person 1 7 0 to 1 7;");
        edges.says("(of a 'stile': that one of both hasn't);");
        edges.fault(3, "deed 0 0;deed 0;stile 0 |1;");
        edges.fault(3, "deed 0;deed 0 0;stile 0 |1;");
        edges.fault(3, TWO_DEEDS + "stile 0 |1;");
        edges.fault(3, TWO_DEEDS + "stile 0 |9999;");
        edges.fine("deed 0 0;deed 0 0;stile 0 1;");
    }

    private void twice() {
        edges.says("4 the PLACE of a 'stile', if there is one already;");
        edges.fault(4, TWO_DEEDS + "stile 0 0;stile 0 |0;");
        edges.fault(4, TWO_DEEDS + "stile 0 0;stile 0 |000;");
        edges.fine("deed 0 0;deed 0 0;deed 0 0;stile 0 0;stile 0 1;stile 1 0;stile 1 1;");
        edges.says("5 a second 'goes', 'fades'.");
        edges.fault(5, "goes 1;|goes 1;");
        edges.fault(5, "fades 1;|fades 1;");
        edges.fault(5, "goes 0;fades 0;|goes");
        edges.fault(5, "fades 0;goes 0;deed 0;|fades x;");
        edges.fine("goes 1;fades 1;");
    }

    private void firstAndLeast() {
        edges.says("FAULTS, the first along the text,");
        edges.fault(2, "deed |10;x");
        edges.fault(3, "goes |x;goes 1;");
        edges.fault(1, "deed 0 |x;deed 10;");
        edges.fault(3, "deed 0;person 0 |1 99;");
        edges.fault(5, "goes 1;|goes 12345;");
        edges.says("at a TOKEN's first byte,");
        edges.fault(2, "deed   |1234567;");
        edges.fault(3, "goes\n|nothing;");
        edges.fault(1, "\n\n |nothing");
        edges.says("of one TOKEN the least:");
        edges.fault(1, "|12345;");
        edges.fault(2, TWO_DEEDS + "stile 0 0;stile 0 |00000;");
        edges.fault(2, TWO_DEEDS + "stile |12345 0;");
        edges.fault(2, TWO_DEEDS + "stile 0 |12345;");
        edges.fault(2, TWO_DEEDS + "person |12345 0 0;");
        edges.fault(2, TWO_DEEDS + "person 0 |12345 0;");
        edges.fault(2, "goes ((((((|x");
        edges.fault(3, "deed 0;" + "stile |0 0;");
    }
}
