/** Promises 2 to 5: letter, blank, fault, law. */
public final class LawTest {
    private static final Due due = new Due("LawTest");

    public static void main(String[] args) {
        letters();
        blanks();
        faults();
        laws();
        everyLetterAtEveryPlace();
        due.end();
    }

    private static void letters() {
        BestBeast x = new BestBeast();
        for (int wrong : new int[] {0, -1, 127, 128, Integer.MIN_VALUE, Integer.MAX_VALUE}) {
            Make.refused(due, x, "letter(" + wrong + ")", () -> x.letter(wrong), Make.OUTSIDE);
        }
        for (int many = 1; many <= 8; many++) {
            due.is("letter(), number " + many, x.letter(many == 1 ? 1 : 126), many);
            due.is("count(10)", x.count(10), many);
        }
        Make.refused(due, x, "the ninth letter(49)", () -> x.letter(49), Make.FULL);
        Make.refused(due, x, "the ninth letter(0)", () -> x.letter(0), Make.OUTSIDE);
    }

    private static void blanks() {
        BestBeast x = new BestBeast();
        due.is("blank() at first", x.blank(), 0);
        Make.write(x, "12345678");
        due.is("blank() of a full page", x.blank(), 8);
        due.is("count(10)", x.count(10), 0);
        due.is("blank() again", x.blank(), 0);
        due.is("letter(49) behind blank()", x.letter(49), 1);
    }

    private static void faults() {
        due.is("fault of ''", faultOf(""), 0);
        due.is("fault of '1'", faultOf("1"), 1);
        due.is("fault of '111'", faultOf("111"), 3);
        due.is("fault of '111;'", faultOf("111;"), 4);
        due.is("fault of '335;9'", faultOf("335;9"), 5);
        due.is("fault of '000;0'", faultOf("000;0"), 5);
        due.is("fault of '335;90'", faultOf("335;90"), 5);
        due.is("fault of '111;0 11'", faultOf("111;0 11"), 5);
        due.is("fault of '4'", faultOf("4"), 0);
        due.is("fault of '14'", faultOf("14"), 1);
        due.is("fault of '116'", faultOf("116"), 2);
        due.is("fault of '1110'", faultOf("1110"), 3);
        due.is("fault of '111:0'", faultOf("111:0"), 3);
        due.is("fault of '111;:'", faultOf("111;:"), 4);
        due.is("fault of '141;x'", faultOf("141;x"), 1);
    }

    private static int faultOf(String text) {
        BestBeast x = new BestBeast();
        Make.write(x, text);
        int fault = x.fault();
        due.is("fault() keeps the page of '" + text + "'", x.count(10), text.length());
        return fault;
    }

    private static void laws() {
        BestBeast x = Make.withHolders("111;0", 3, 4);
        Make.beasts(x, 0, 30, 20, 5);
        due.is("about(0, 8) by 111;0", x.about(0, 8), 50);
        Make.write(x, "325;7");
        due.is("law()", x.law(), 2);
        int[] counts = {3, 2, 5, 7, 2, 2, 3, 3, 0, 0, 0, 2};
        for (int what = 0; what < counts.length; what++) {
            due.is("count(" + what + ")", x.count(what), counts[what]);
        }
        due.is("about(0, 8) by 325;7", x.about(0, 8), 50);
        due.is("about(0, 6) by 325;7", x.about(0, 6), 3);
        due.is("about(0, 7) by 325;7", x.about(0, 7), 2);
        for (String none : new String[] {"", "325;", "325;70", "425;7", "345;7", "326;7", "325,7", "325;a"}) {
            Make.write(x, none);
            Make.refused(due, x, "law() of '" + none + "'", x::law, Make.STATE);
            due.is("count(10) behind '" + none + "'", x.count(10), none.length());
        }
    }

    private static void everyLetterAtEveryPlace() {
        String[] fit = {"0123", "0123", "012345", ";", "0123456789"};
        for (int place = 0; place < fit.length; place++) {
            for (char c = 1; c <= 126; c++) {
                boolean fits = fit[place].indexOf(c) >= 0;
                String text = "111;0".substring(0, place) + c;
                due.is("fault at " + place + " of letter " + (int) c, faultOf(text), fits ? place + 1 : place);
            }
        }
    }
}
