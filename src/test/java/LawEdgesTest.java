import java.util.List;

/** THE LAW of the Terms, and promises 2 to 5: a test for each sentence that names an edge. */
public final class LawEdgesTest {
    private static final Due due = new Due("LawEdgesTest");
    private static final String GREATEST_LAW = "335;9";

    public static void main(String[] args) {
        aLetterIsOf1To126();
        thePageHasEightLettersAtMost();
        ofALetterOutsideIsToldBeforeFull();
        aRefusedLetterIsNotWritten();
        blankTellsHowManyItHad();
        anEmptyPageHasNoFault();
        eachPlaceHasALeastAndAGreatestLetter();
        noLawHasASixthLetter();
        theFirstOfSeveralFaultsIsTold();
        theLeastAndTheGreatestLaw();
        oneTooSmallOrTooLarge();
        aPageTooShortOrTooLong();
        howOftenOneWasRead();
        allElseStays();
        aLawHoldsAtOnce();
        due.end();
    }

    private static BestBeast withPage(String text) {
        BestBeast x = new BestBeast();
        Make.write(x, text);
        return x;
    }

    private static void aLetterIsOf1To126() {
        for (int code : new int[] {1, 2, 125, 126}) {
            BestBeast x = new BestBeast();
            due.is("letter(" + code + ")", x.letter(code), 1);
            due.is("count(10) behind letter(" + code + ")", x.count(10), 1);
        }
        BestBeast x = new BestBeast();
        // 305 and 65585 would be 49 again, if they were cut to a byte or a char
        for (int code : new int[] {Integer.MIN_VALUE, -127, -1, 0, 127, 128, 305, 65585, Integer.MAX_VALUE}) {
            Make.refused(due, x, "letter(" + code + ")", () -> x.letter(code), Make.OUTSIDE);
            due.is("count(10) behind letter(" + code + ")", x.count(10), 0);
        }
    }

    private static void thePageHasEightLettersAtMost() {
        BestBeast x = new BestBeast();
        for (int many = 1; many <= 8; many++) {
            due.is("letter number " + many, x.letter(47 + many), many);
        }
        Make.refused(due, x, "the ninth letter", () -> x.letter(57), Make.FULL);
        Make.refused(due, x, "the ninth letter again", () -> x.letter(126), Make.FULL);
        due.is("count(10), full", x.count(10), 8);
        x.blank();
        due.is("letter() behind blank()", x.letter(49), 1);
    }

    private static void ofALetterOutsideIsToldBeforeFull() {
        BestBeast x = withPage("12345678");
        for (int code : new int[] {Integer.MIN_VALUE, 0, 127, Integer.MAX_VALUE}) {
            Make.refused(due, x, "letter(" + code + ") on a full page", () -> x.letter(code), Make.OUTSIDE);
        }
    }

    private static void aRefusedLetterIsNotWritten() {
        BestBeast x = withPage("335;");
        x.letter(0);
        x.letter(127);
        due.is("fault() behind refused letters", x.fault(), 4);
        x.letter('9');
        due.is("law() of what was not refused", x.law(), 1);
        BestBeast full = withPage("335;9678");
        long before = full.digest();
        full.letter('5');
        due.is("digest() of a full page behind a ninth letter", full.digest(), before);
    }

    private static void blankTellsHowManyItHad() {
        for (int many = 0; many <= 8; many++) {
            BestBeast x = withPage("12345678".substring(0, many));
            due.is("blank() of " + many, x.blank(), many);
            due.is("count(10) behind blank() of " + many, x.count(10), 0);
            due.is("fault() behind blank() of " + many, x.fault(), 0);
            due.is("blank() of none, behind " + many, x.blank(), 0);
        }
        BestBeast read = Make.underLaw(GREATEST_LAW);
        due.is("blank() behind law()", read.blank(), 0);
    }

    private static void anEmptyPageHasNoFault() {
        due.is("fault() of an empty page", new BestBeast().fault(), 0);
        for (int many = 0; many <= 5; many++) {
            due.is("fault() of " + many + " that fit", withPage(GREATEST_LAW.substring(0, many)).fault(), many);
        }
    }

    private static void eachPlaceHasALeastAndAGreatestLetter() {
        String least = "000;0";
        for (int place = 0; place < 5; place++) {
            String ahead = least.substring(0, place);
            char from = least.charAt(place);
            char to = GREATEST_LAW.charAt(place);
            char[] fit = {from, to};
            char[] none = {1, (char) (from - 1), (char) (to + 1), 126};
            for (char letter : fit) {
                due.is("fault() of '" + ahead + letter + "'", withPage(ahead + letter).fault(), place + 1);
            }
            for (char letter : none) {
                due.is("fault() of '" + ahead + letter + "'", withPage(ahead + letter).fault(), place);
                due.is("fault() of '" + ahead + letter + "0;0'", withPage(ahead + letter + "0;0").fault(), place);
            }
        }
    }

    private static void noLawHasASixthLetter() {
        for (char letter : new char[] {1, '0', '9', ';', 126}) {
            due.is("fault() of a sixth " + (int) letter, withPage("111;0" + letter).fault(), 5);
        }
        due.is("fault() of seven letters", withPage("111;000").fault(), 5);
        due.is("fault() of a full page", withPage("111;0111").fault(), 5);
    }

    private static void theFirstOfSeveralFaultsIsTold() {
        due.is("fault() of 'xxxxxxxx'", withPage("xxxxxxxx").fault(), 0);
        due.is("fault() of '1x1x1'", withPage("1x1x1").fault(), 1);
        due.is("fault() of '11111111'", withPage("11111111").fault(), 3);
        due.is("fault() of '111;x0'", withPage("111;x0").fault(), 4);
        BestBeast x = withPage("1x1x1");
        due.is("fault() again", x.fault() + x.fault(), 2);
        due.is("count(10) behind fault()", x.count(10), 5);
    }

    private static void isLaw(BestBeast x, String law) {
        int[] places = {0, 1, 2, 4};
        for (int what = 0; what < 4; what++) {
            due.is("count(" + what + ") by " + law, x.count(what), law.charAt(places[what]) - '0');
        }
    }

    private static void theLeastAndTheGreatestLaw() {
        isLaw(new BestBeast(), "111;0");
        for (String law : new String[] {"000;0", "300;0", "030;0", "005;0", "000;9", GREATEST_LAW}) {
            BestBeast x = withPage(law);
            due.is("law() of " + law, x.law(), 1);
            isLaw(x, law);
            due.is("count(10) behind law() of " + law, x.count(10), 0);
        }
    }

    private static void oneTooSmallOrTooLarge() {
        String[] none = {"/11;0", "411;0", "1/1;0", "141;0", "11/;0", "116;0", "111:0", "111<0", "111;/", "111;:"};
        for (String text : none) {
            BestBeast x = Make.underLaw("213;4");
            Make.write(x, text);
            int fault = x.fault();
            Make.refused(due, x, "law() of " + text, x::law, Make.STATE);
            isLaw(x, "213;4");
            due.is("fault() behind the refused " + text, x.fault(), fault);
            due.is("count(10) behind the refused " + text, x.count(10), 5);
            due.is("count(11) behind the refused " + text, x.count(11), 1);
        }
    }

    private static void aPageTooShortOrTooLong() {
        String text = "325;7012";
        for (int many = 0; many <= 8; many++) {
            BestBeast x = withPage(text.substring(0, many));
            if (many == 5) {
                due.is("law() of 5", x.law(), 1);
                continue;
            }
            Make.refused(due, x, "law() of " + many, x::law, Make.STATE);
            isLaw(x, "111;0");
            due.is("count(10) behind law() of " + many, x.count(10), many);
            due.is("count(11) behind law() of " + many, x.count(11), 0);
        }
    }

    private static void howOftenOneWasRead() {
        BestBeast x = new BestBeast();
        for (int often = 1; often <= 60; often++) {
            Make.write(x, "111;0");
            due.is("law() number " + often, x.law(), often);
            due.is("law() of the page that is empty then", x.law(), Make.STATE);
        }
        due.is("count(11)", x.count(11), 60);
    }

    private static void allElseStays() {
        for (Scene scene : Scene.ALL) {
            BestBeast x = scene.made();
            // the like law is read, so that all that follows from it stays, too
            String law = "" + x.count(0) + x.count(1) + x.count(2) + ";" + x.count(3);
            Make.write(x, law);
            List<String> before = Look.at(x);
            int often = x.count(11);
            due.is("law() of " + law + " (" + scene.name + ")", x.law(), often + 1);
            List<String> behind = Look.at(x);
            for (int i = 0; i < before.size(); i++) {
                String line = before.get(i);
                boolean changes = line.startsWith("count(10)") || line.startsWith("count(11)")
                    || line.startsWith("fault()") || line.startsWith("digest()");
                due.holds(line + ", then " + behind.get(i), changes || line.equals(behind.get(i)));
            }
        }
    }

    private static void aLawHoldsAtOnce() {
        BestBeast x = Make.withHolders("105;9", 5, 5);
        Make.beasts(x, 0, 8, 9, 10);
        x.give(2, 1);
        due.is("about(0, 5), VOID 5", x.about(0, 5), 0b111);
        Make.write(x, "330;0");
        x.law();
        due.is("about(0, 5), VOID 0", x.about(0, 5), 0b011);
        due.is("about(0, 8), LEAST 0", x.about(0, 8), 17);
        Make.write(x, "331;9");
        x.law();
        due.is("about(0, 5), VOID 1", x.about(0, 5), 0b111);
        due.is("about(0, 8), LEAST 9", x.about(0, 8), 19);
    }
}
