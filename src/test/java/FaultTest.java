/** Promises 3 and 4: texts, their faults, and the place of the fault. */
public final class FaultTest {
    private static final Check CHECK = new Check();
    private static final String SIX_DEEDS = "deed 0;deed 0;deed 0;deed 0;deed 0;deed 0;";

    private FaultTest() {
    }

    private static void due(String text, int fault, int place) {
        MarginWays x = new MarginWays();
        CHECK.same("cellar of: " + text, Check.cellar(x, text), fault);
        CHECK.same("fault of: " + text, x.fault(), place);
        CHECK.same("refused texts: " + text, x.count(11), fault == 0 ? 0 : 1);
    }

    private static void fine(String text) {
        due(text, 0, -1);
    }

    /** A fault at the place of the sign |, which is left out of the text. */
    private static void at(String marked, int fault) {
        int place = marked.indexOf('|');
        due(marked.substring(0, place) + marked.substring(place + 1), fault, place);
    }

    public static void main(String[] args) {
        fineTexts();
        tokensThatCannotStand();
        tooMuch();
        notThere();
        twice();
        expressions();
        theLeastAndTheFirst();
        CHECK.end("FaultTest");
    }

    private static void fineTexts() {
        fine("");
        fine("   \n  ");
        fine("deed 0;");
        fine("deed0;");
        fine("\ndeed\n0 1 2 3 4 5 6 9 ; ");
        fine("deed 0009;");
        fine(SIX_DEEDS);
        fine("deed 0 0;deed 0 0 0;stile 0 1;");
        fine("deed 3;person 0 0 9;person 0 0 0 to 0 0;");
        fine("goes 1;fades 1;");
        fine("goes not not not not not not 1;");
        fine("goes (((((1)))));");
        fine("goes pace+steps-far*with/met<day or 1=2 and not 3;");
        fine("fades ink+place-deed*with/day;");
        fine("goes 9999;");
    }

    private static void tokensThatCannotStand() {
        at("|x;", 1);
        at("|;", 1);
        at("|0;", 1);
        at("|to;", 1);
        at("|Deed 0;", 1);
        at("|de ed 0;", 1);
        at("|deeds 0;", 1);
        at("deed |;", 1);
        at("deed |", 1);
        at("deed 0|", 1);
        at("deed 0   |", 1);
        at("deed 0 |deed 0;", 1);
        at("deed 0 |to;", 1);
        at("deed 0,|".replace(",|", "|,"), 1);
        at("deed 0|\t;", 1);
        at("deed 0;|\r", 1);
        at("deed 0;|" + (char) 200, 1);
        at("deed 0;|" + (char) 0, 1);
        at("deed |-1;", 1);
        at("deed 0;deed 0;stile 0|;", 1);
        at("deed 0;deed 0;stile |;", 1);
        at("deed 0;deed 0;stile 0 0 |0;", 1);
        at("deed 0;person 0 0|;", 1);
        at("deed 0;person 0 0 1 |0;", 1);
        at("deed 0;person 0 0 1 to|;", 1);
        at("deed 0;person 0 0 1 to 0|;", 1);
        at("deed 0;person 0 0 1 |too 0 0;", 1);
        at("deed 0;person 0 0 1 to 0 0 |to 0 0;", 1);
        at("deed 0;person |to 0 0;", 1);
        at("deed 0;;".replace(";;", ";|;"), 1);
    }

    private static void tooMuch() {
        at("deed |10;", 2);
        at("deed 0 |00000;", 2);
        at("deed 0 |0010;", 2);
        at(SIX_DEEDS + "|deed 0;", 2);
        at(SIX_DEEDS + "|deed", 2);
        at("deed 0 0 0 0 0 0 0 0 |0;", 2);
        at("deed 0 0 0 0 0 0 0 0 |99;", 2);
        at("deed 0;" + "person 0 0 0;".repeat(6) + "|person 0 0 0;", 2);
        at("deed 0;person 0 0 |10;", 2);
        at("deed 0;person 0 |00000 1;", 2);
        at("deed 0;person |00000 0 1;", 2);
        at("deed 0;deed 0;stile |12345 0;", 2);
        at("deed 0;deed 0;stile 0 |12345;", 2);
        at("goes |10000;", 2);
        at("goes 1+|00001;", 2);
        at("goes not not not not not not |not 1;", 2);
        at("goes 1 or not not not not not not |not 1;", 2);
        at("goes ((((((|1))))));", 2);
        at("goes ((((((|(", 2);
        at("goes ((((((|pace", 2);
        at("goes ((((((|not 1", 2);
        at("goes ((((((|nonsense", 2);
        at("goes 1+(1+(1+(1+(1+(|1)))));".replace("(1+(|1)", "(1+((|1)"), 2);
        at("goes ((((((|12345", 2);
    }

    private static void notThere() {
        at("stile |0 0;", 3);
        at("deed 0;stile |0 0;", 3);
        at("deed 0;deed 0;stile |1 0;", 3);
        at("deed 0;deed 0;stile |9999 0;", 3);
        at("deed 0 0;deed 0;stile 0 |1;", 3);
        at("deed 0;deed 0 0;stile 0 |1;", 3);
        at("deed 0;deed 0;stile 0 |9999;", 3);
        at("person |0 0 0;", 3);
        at("deed 0;person |1 0 0;", 3);
        at("deed 0;person 0 |1 0;", 3);
        at("deed 0;person 0 |8 0;", 3);
        at("deed 0;person 0 |9999 0;", 3);
        at("deed 0;person 0 0 0 to |1 0;deed 0;", 3);
        at("deed 0;person 0 0 0 to 0 |1;", 3);
        at("goes |ink;", 3);
        at("goes |place;", 3);
        at("goes |deed;", 3);
        at("goes |to;", 3);
        at("goes |or;", 3);
        at("goes 1+|not 1;", 3);
        at("goes 1<|not 1;", 3);
        at("goes 1 and |and;", 3);
        at("goes (|goes);", 3);
        at("goes not |paces;", 3);
        at("fades |pace;", 3);
        at("fades |steps;", 3);
        at("fades |far;", 3);
        at("fades |met;", 3);
        at("fades 1*|x;", 3);
        at("fades 1*|z;", 3);
        at("fades |az;", 3);
    }

    private static void twice() {
        at("deed 0;deed 0;stile 0 0;stile 0 |0;", 4);
        fine("deed 0;deed 0;deed 0;stile 0 0;stile 1 0;");
        at("goes 1;|goes 1;", 5);
        at("fades 1;goes 1;|fades 1;", 5);
        at("goes 1;|goes", 5);
    }

    private static void expressions() {
        at("goes |;", 1);
        at("goes |", 1);
        at("goes |);", 1);
        at("goes (|);", 1);
        at("goes 1 |1;", 1);
        at("goes 1 |pace;", 1);
        at("goes 1 |not 1;", 1);
        at("goes 1<2|<3;", 1);
        at("goes 1<2|=3;", 1);
        fine("goes (1<2)<3;");
        fine("goes 1<2 and 1<2 or 1<2;");
        at("goes 1+|+1;", 1);
        at("goes |-1;", 1);
        at("goes 1|);", 1);
        at("goes (1|;", 1);
        at("goes (1|", 1);
        at("goes ((((((|);", 1);
        at("goes ((((((|", 1);
        at("goes 1 +|", 1);
        at("goes not|;", 1);
        at("goes 1 |to;", 1);
        fine("goes not (not (not (not (not 1))));");
        at("goes not not not (not not not not not not |not 1);", 2);
    }

    private static void theLeastAndTheFirst() {
        at("deed |10;x", 2);
        at("deed 0;person 0 |1 99;", 3);
        at("goes |x;goes 1;", 3);
        // all stays with a fault: only the tape is empty
        MarginWays x = Check.told("deed 0 3;person 0 0 4 to 0 1;");
        x.type(0, 7);
        x.image();
        CHECK.same("a fault", Check.cellar(x, "deed"), 1);
        CHECK.same("its place", x.fault(), 4);
        CHECK.same("the tape", x.count(10), 0);
        CHECK.same("ink as it was", x.ink(0), 7);
        CHECK.same("acts as they were", x.count(8), 1);
        CHECK.isTrue("the image as it was", x.restore());
        CHECK.same("all anew", Check.cellar(x, "deed 0;"), 0);
        CHECK.same("no fault any more", x.fault(), -1);
        CHECK.same("status stays", x.count(11), 1);
        CHECK.same("acts are gone", x.count(8), 0);
        CHECK.isFalse("the image is gone", x.restore());
        CHECK.same("nobody", x.count(1), 0);
    }
}
