import java.util.HashMap;
import java.util.Map;

/** Boundary cases of the first part of the Terms: what text is a VALLEY, where its FAULT is, and which one holds. */
public final class EdgesOfTerms1ValleysTest {
    private static final String DIGITS = "0123456789", PARTS = "!(pkvhld";

    public static void main(String[] args) throws IllegalAccessException {
        Edges.run(EdgesOfTerms1ValleysTest.class);
    }

    private static AuntsInTurn played(String... calls) {
        return Edges.played(calls);
    }

    @Edge(of = "Terms 1", says = "A VALLEY is read from THE TAPE (bytes, 100 at most)")
    static void hundredSignsAndNotOneMore() {
        AuntsInTurn x = new AuntsInTurn();
        String text = "bold 10 " + "p=1&".repeat(22) + "p=10";
        for (int i = 0; i < 100; i++) {
            Edges.due("sign " + i, x.feed(text.charAt(i)), i + 1);
        }
        Edges.due("one sign more", x.feed('&'), Edges.FULL);
        Edges.due("signs", x.count(6), 100);
        Edges.due("the text of 100", x.valley(), 0);
        Edges.due("the first sign behind a text of 100", x.feed('n'), 1);
        Edges.well(text.substring(0, 99));
        Edges.fault(text.substring(0, 96), 96);
    }

    @Edge(of = "Terms 1", says = "CLAUSES, 1 to 10")
    static void oneClauseToTen() {
        Edges.fault("", 0);
        for (int n = 1; n <= 10; n++) {
            Edges.well("nerve 1;".repeat(n - 1) + "nerve 2");
        }
        String ten = "nerve 1;".repeat(9) + "nerve 2";
        Edges.fault(ten + ";", 79);
        Edges.fault(ten + ";nerve 3", 79);
        Edges.fault(ten + ";x", 79);
        String shortest = "shy 1 p=1;".repeat(9);
        Edges.well(shortest + "shy 1 p=1");
        Edges.fault(shortest + "shy 1 p=1;", 99);
        Edges.fault(shortest, 90);
    }

    @Edge(of = "Terms 1", says = "with ; between")
    static void semicolonsBetweenAndNowhereElse() {
        Edges.well("nerve 1;nerve 1");
        Edges.fault(";", 0);
        Edges.fault(";nerve 1", 0);
        Edges.fault("nerve 1;", 8);
        Edges.fault("nerve 1;;nerve 1", 8);
        Edges.fault("nerve 1nerve 1", 7);
        Edges.fault("nerve 1:nerve 1", 7);
        Edges.fault("nerve 1<nerve 1", 7);
        Edges.fault("shy 1 p=1;", 10);
        Edges.fault("shy 1;p=1", 5);
        Edges.fault("shy 1 ;", 6);
    }

    @Edge(of = "Terms 1", says = "nerve n; bold n E; shy n E")
    static void clausesHaveAllTheirPartsAndNoMore() {
        Edges.well("nerve 1");
        Edges.well("bold 1 p=1");
        Edges.well("shy 1 p=1");
        Edges.fault("nerve", 5);
        Edges.fault("nerve ", 6);
        Edges.fault("nerve p=1", 6);
        Edges.fault("nerve 1 p=1", 7);
        Edges.fault("bold", 4);
        Edges.fault("bold 1", 6);
        Edges.fault("bold 1 ", 7);
        Edges.fault("bold p=1", 5);
        Edges.fault("shy", 3);
        Edges.fault("shy 1", 5);
        Edges.fault("shy 1 ", 6);
        Edges.fault("shy p=1", 4);
        Edges.fault("shy 1 p=1 p=1", 9);
        Edges.fault("NERVE 1", 0);
        Edges.fault("nerves 1", 5);
        Edges.fault("bolder 1 p=1", 4);
        Edges.fault("shyly 1 p=1", 3);
    }

    /** Each word of a clause goes on with one sign alone. */
    @Edge(of = "Terms 1", says = "nerve n; bold n E; shy n E")
    static void wordsGoOnWithTheirOwnSign() {
        for (String word : new String[] {"nerve ", "bold ", "shy "}) {
            for (int at = 1; at < word.length(); at++) {
                goesOn(word.substring(0, at), word.substring(at, at + 1), "");
            }
        }
        goesOn("", "nbs", "");
    }

    @Edge(of = "Terms 1", says = "(one blank ahead of each part behind the word; n 1 or 2 digits, no 0 ahead of another)")
    static void oneBlankNotNoneNotTwo() {
        Edges.fault("nerve1", 5);
        Edges.fault("nerve  1", 6);
        Edges.fault("nerve\t1", 5);
        Edges.fault("bold1 p=1", 4);
        Edges.fault("bold  1 p=1", 5);
        Edges.fault("bold 1p=1", 6);
        Edges.fault("bold 1  p=1", 7);
        Edges.fault("shy1 p=1", 3);
        Edges.fault("shy  1 p=1", 4);
        Edges.fault("shy 1p=1", 5);
        Edges.fault("shy 1  p=1", 6);
        Edges.fault("shy 12p=1", 6);
        Edges.fault("shy 12  p=1", 7);
    }

    @Edge(of = "Terms 1", says = "(one blank ahead of each part behind the word; n 1 or 2 digits, no 0 ahead of another)")
    static void blanksNowhereElse() {
        Edges.fault(" nerve 1", 0);
        Edges.fault("nerve 1 ", 7);
        Edges.fault("nerve 1 ;nerve 1", 7);
        Edges.fault("nerve 1; nerve 1", 8);
        Edges.fault("nerve 1 2", 7);
        Edges.fault("shy 1 p =1", 7);
        Edges.fault("shy 1 p= 1", 8);
        Edges.fault("shy 1 p=1 ", 9);
        Edges.fault("shy 1 p=1 &p=1", 9);
        Edges.fault("shy 1 p=1& p=1", 10);
        Edges.fault("shy 1 p=1 |p=1", 9);
        Edges.fault("shy 1 p=1| p=1", 10);
        Edges.fault("shy 1 ! p=1", 7);
        Edges.fault("shy 1 ( p=1)", 7);
        Edges.fault("shy 1 (p=1 )", 10);
    }

    @Edge(of = "Terms 1", says = "(one blank ahead of each part behind the word; n 1 or 2 digits, no 0 ahead of another)")
    static void numbersOfOneOrTwoDigits() {
        for (int n = 0; n <= 99; n++) {
            AuntsInTurn x = played("text nerve " + n, "valley");
            Edges.due("nerve " + n, x.told(1), n);
        }
        Edges.fault("nerve 100", 8);
        Edges.fault("nerve 999", 8);
        Edges.fault("bold 100 p=1", 7);
        Edges.well("bold 99 p=1");
        Edges.fault("shy 100 p=1", 6);
        Edges.well("shy 99 p=1");
        Edges.well("shy 1 p=99");
        Edges.fault("shy 1 p=100", 10);
        Edges.fault("nerve -1", 6);
        Edges.fault("nerve x", 6);
    }

    @Edge(of = "Terms 1", says = "(one blank ahead of each part behind the word; n 1 or 2 digits, no 0 ahead of another)")
    static void no0AheadOfAnotherDigit() {
        Edges.well("nerve 0");
        Edges.well("nerve 10");
        Edges.fault("nerve 00", 7);
        Edges.fault("nerve 01", 7);
        Edges.fault("nerve 09", 7);
        Edges.well("bold 0 p=1");
        Edges.fault("bold 00 p=1", 6);
        Edges.fault("bold 05 p=1", 6);
        Edges.well("shy 0 p=1");
        Edges.fault("shy 01 p=1", 5);
        Edges.well("shy 1 p=0");
        Edges.well("shy 1 p=10");
        Edges.fault("shy 1 p=00", 9);
        Edges.fault("shy 1 p=01", 9);
    }

    @Edge(of = "Terms 1", says = "E: T, or T|E. T: F, or F&T.")
    static void jointsStandBetween() {
        Edges.well("shy 1 p=1|p=2");
        Edges.well("shy 1 p=1&p=2");
        Edges.well("shy 1 p=1&p=2|p=3&p=4|p=5");
        for (String joint : new String[] {"|", "&"}) {
            Edges.fault("shy 1 " + joint, 6);
            Edges.fault("shy 1 " + joint + "p=1", 6);
            Edges.fault("shy 1 p=1" + joint, 10);
            Edges.fault("shy 1 p=1" + joint + ";", 10);
            Edges.fault("shy 1 p=1" + joint + "|p=1", 10);
            Edges.fault("shy 1 p=1" + joint + "&p=1", 10);
            Edges.fault("shy 1 (p=1" + joint + ")", 11);
            Edges.fault("shy 1 (" + joint + "p=1)", 7);
        }
        Edges.well("bold 10 " + "p=1|".repeat(22) + "p=10");
        Edges.well("bold 10 " + "p=1&".repeat(22) + "p=10");
    }

    @Edge(of = "Terms 1", says = "F: !F, (E), or a TEST")
    static void singlePartsAreWhole() {
        Edges.well("shy 1 !p=1");
        Edges.well("shy 1 (p=1)");
        Edges.well("shy 1 !(p=1)");
        Edges.well("shy 1 (!p=1)");
        Edges.fault("shy 1 !", 7);
        Edges.fault("shy 1 !;", 7);
        Edges.fault("shy 1 !)", 7);
        Edges.fault("shy 1 (", 7);
        Edges.fault("shy 1 ()", 7);
        Edges.fault("shy 1 (p=1", 10);
        Edges.fault("shy 1 (p=1;", 10);
        Edges.fault("shy 1 (p=1;nerve 1", 10);
        Edges.fault("shy 1 p=1)", 9);
        Edges.fault("shy 1 (p=1))", 11);
        Edges.fault("shy 1 )p=1(", 6);
        Edges.fault("shy 1 p=1!p=1", 9);
        Edges.fault("shy 1 p=1(p=1)", 9);
        Edges.fault("shy 1 (p=1)(p=1)", 11);
        Edges.fault("shy 1 (p=1)p=1", 11);
    }

    @Edge(of = "Terms 1", says = "a TEST: p or k or v or h or l or d, one of < = >, a number likewise")
    static void testsAreOfThreeParts() {
        for (char subject : "pkvhld".toCharArray()) {
            for (char relation : "<=>".toCharArray()) {
                Edges.well("shy 1 " + subject + relation + "0");
                Edges.well("shy 1 " + subject + relation + "99");
            }
            Edges.fault("shy 1 " + subject, 7);
            Edges.fault("shy 1 " + subject + "1", 7);
            Edges.fault("shy 1 " + subject + "=", 8);
            Edges.fault("shy 1 " + subject + "<=1", 8);
            Edges.fault("shy 1 " + subject + "=" + subject, 8);
        }
        Edges.fault("shy 1 =1", 6);
        Edges.fault("shy 1 1=p", 6);
        Edges.fault("shy 1 P=1", 6);
        Edges.fault("shy 1 q=1", 6);
    }

    /** Each of the 128 signs behind the text: those that go on (behind them the text ends too early, or is well). */
    private static void goesOn(String text, String goesOn, String ends) {
        for (int sign = 0; sign <= 127; sign++) {
            String more = text + (char) sign;
            int want = -10 - text.length();
            if (ends.indexOf(sign) >= 0) {
                want = 0;
            } else if (goesOn.indexOf(sign) >= 0) {
                want = -10 - more.length();
            }
            Edges.due("valley of '" + text + "' and sign " + sign, Edges.valley(more), want);
        }
    }

    @Edge(of = "Terms 1", says = "FAULT: the place of the first byte with which no VALLEY can go on (the size, if it ends too early).")
    static void eachOf128SignsAtEachPlace() {
        goesOn("", "nbs", "");
        goesOn("nerve ", "", DIGITS);
        goesOn("nerve 0", ";", "");
        goesOn("nerve 1", ";", DIGITS);
        goesOn("nerve 9", ";", DIGITS);
        goesOn("nerve 12", ";", "");
        goesOn("nerve 1;", "nbs", "");
        goesOn("bold ", DIGITS, "");
        goesOn("bold 0", " ", "");
        goesOn("bold 1", " " + DIGITS, "");
        goesOn("bold 12", " ", "");
        goesOn("shy 1 ", PARTS, "");
        goesOn("shy 1 !", PARTS, "");
        goesOn("shy 1 (", PARTS, "");
        goesOn("shy 1 p=1&", PARTS, "");
        goesOn("shy 1 p=1|", PARTS, "");
        goesOn("shy 1 p", "<=>", "");
        goesOn("shy 1 p=", "", DIGITS);
        goesOn("shy 1 p=0", "&|;", "");
        goesOn("shy 1 p=1", "&|;", DIGITS);
        goesOn("shy 1 p=12", "&|;", "");
        goesOn("shy 1 !p=12", "&|;", "");
        goesOn("shy 1 (p=", DIGITS, "");
        goesOn("shy 1 (p=0", "&|", ")");
        goesOn("shy 1 (p=1", "&|" + DIGITS, ")");
        goesOn("shy 1 (p=12", "&|", ")");
        goesOn("shy 1 ((p=0", "&|)", "");
        goesOn("shy 1 (p=1)", "&|;", "");
        goesOn("shy 1 !!!!!", "pkvhld", "");
        goesOn("shy 1 (((((", "pkvhld", "");
        goesOn("shy 1 !(!(!p=1", "&|)" + DIGITS, "");
        goesOn("nerve 1;".repeat(9) + "nerve 1", "", DIGITS);
        goesOn("nerve 1;".repeat(9) + "nerve 12", "", "");
        goesOn("shy 1 p=1;".repeat(9) + "shy 1 p=0", "&|", "");
    }

    @Edge(of = "Terms 1", says = "FAULT: the place of the first byte with which no VALLEY can go on (the size, if it ends too early).")
    static void eachBeginningOfATextEndsTooEarly() {
        String text = "nerve 12;bold 5 !(p<3&k=0)|h>9;shy 10 ((v=1))";
        for (int size = 0; size <= text.length(); size++) {
            // the ends behind nerve 1, nerve 12, the ) of the bold and its test behind that, and the last )
            boolean whole = size == 7 || size == 8 || size == 26 || size == 30 || size == text.length();
            Edges.due("the first " + size, Edges.valley(text.substring(0, size)), whole ? 0 : -10 - size);
        }
    }

    @Edge(of = "Terms 1", says = "FAULT: the place of the first byte with which no VALLEY can go on (the size, if it ends too early).")
    static void theFirstOfSeveralFaultsAtTheFirstAndAtTheLastPlace() {
        Edges.fault("x", 0);
        Edges.fault("xx", 0);
        Edges.fault("nerve x;nerve y", 6);
        String of99 = "bold 1 " + "p=1&".repeat(23);
        Edges.fault(of99 + "x", 99);
        Edges.fault(of99 + "p", 100);
        Edges.fault(of99, 99);
        Edges.fault("x".repeat(100), 0);
    }

    /** Whether something is a VALLEY that begins so: what may be missing is the end of a clause, and some ). */
    private static boolean goesOn(String beginning) {
        for (String clause : new String[] {"nerve 1", "bold 1 p<1", "shy 1 p<1"}) {
            for (int from = 0; from <= clause.length(); from++) {
                for (int open = 0; open <= 5; open++) {
                    if (Edges.valley(beginning + clause.substring(from) + ")".repeat(open)) == 0) {
                        return true;
                    }
                }
            }
        }
        return false;
    }

    @Edge(of = "Terms 1", says = "FAULT: the place of the first byte with which no VALLEY can go on (the size, if it ends too early).")
    static void whatIsAheadOfTheFaultGoesOnAndWithItNothingDoes() {
        Map<String, Boolean> goesOn = new HashMap<>();
        for (String text : new String[] {"nerve 5;bold 12 p=0&!(h<2|k>3)", "shy 1 !((v=1)&d>0);nerve 0"}) {
            for (int at = 0; at <= text.length(); at++) {
                for (char sign : "nbs 01p<&|!();x".toCharArray()) {
                    String changed = text.substring(0, at) + sign + text.substring(Math.min(text.length(), at + sign % 2));
                    int answer = Edges.valley(changed);
                    int fault = answer == 0 ? changed.length() : -10 - answer;
                    boolean ahead = goesOn.computeIfAbsent(changed.substring(0, fault), EdgesOfTerms1ValleysTest::goesOn);
                    Edges.due("'" + changed + "' goes on ahead of " + fault, ahead ? 1 : 0, 1);
                    if (fault < changed.length()) {
                        boolean with = goesOn.computeIfAbsent(changed.substring(0, fault + 1), EdgesOfTerms1ValleysTest::goesOn);
                        Edges.due("'" + changed + "' goes on with " + fault, with ? 1 : 0, 0);
                    }
                }
            }
        }
    }

    @Edge(of = "Terms 1", says = "At most 5 of ! and ( are open (a ( till its ) , a ! till its F ends).")
    static void fiveOpenAndNotSix() {
        for (int i = 0; i <= 5; i++) {
            String five = "!".repeat(i) + "(".repeat(5 - i);
            String five2 = "(".repeat(5 - i) + "!".repeat(i);
            Edges.well("shy 1 " + five + "p=1" + ")".repeat(5 - i));
            Edges.well("shy 1 " + five2 + "p=1" + ")".repeat(5 - i));
            for (String open : new String[] {"!", "("}) {
                Edges.fault("shy 1 " + five + open, 11);
                Edges.fault("shy 1 " + five2 + open, 11);
                Edges.fault("shy 1 " + five + open + "p=1", 11);
            }
            Edges.fault("shy 1 " + five, 11);
        }
    }

    @Edge(of = "Terms 1", says = "At most 5 of ! and ( are open (a ( till its ) , a ! till its F ends).")
    static void fiveOpenBehindJointsAndNotSix() {
        for (String joint : new String[] {"p=1|", "p=1&", "p=1|p=1|p=1|", "p=1&p=1&p=1&", "!p=1|(p=1)&", "!!!p=1|!!!p=1&(((p=1)))|"}) {
            Edges.well("shy 1 " + joint + "!!!!!p=1");
            Edges.well("shy 1 " + joint + "(((((p=1)))))");
            Edges.fault("shy 1 " + joint + "!!!!!!p=1", 11 + joint.length());
            Edges.fault("shy 1 " + joint + "((((((p=1))))))", 11 + joint.length());
            Edges.well("shy 1 (" + joint + "!!!!p=1)");
            Edges.fault("shy 1 !(" + joint + "!(!!p=1))", 11 + joint.length());
        }
    }

    @Edge(of = "Terms 1", says = "At most 5 of ! and ( are open (a ( till its ) , a ! till its F ends).")
    static void whatIsClosedIsNotOpen() {
        Edges.well("shy 1 !!!!!p=1&!!!!!p=1|!!!!!p=1");
        Edges.well("shy 1 (((((p=1)))))&(((((p=1)))))");
        Edges.well("shy 1 ((((!p=1&!p=2|!p=3))))");
        Edges.fault("shy 1 ((((!p=1&!!p=2))))", 16);
        Edges.well("shy 1 !!(((p=1)&(p=2)))|!!!!!p=3");
        Edges.fault("shy 1 !!(((p=1)&(p=2)&((p=3))))", 23);
        // ! is open till the ) of its F
        Edges.well("shy 1 !(!!!p=1&!!!p=2)&!!!!!p=3");
        Edges.fault("shy 1 !(!!!p=1&!!!!p=2)", 18);
        Edges.well("shy 1 (p=1)&(p=1)&(p=1)&(p=1)&(p=1)&(p=1)");
        Edges.well("shy 1 !p=1;shy 1 !!!!!p=1;shy 1 (((((p=1)))))");
    }

    @Edge(of = "Terms 1", says = "VALLEYS are numbered from 0 on, 5 at most")
    static void fiveValleysAndNotSix() {
        AuntsInTurn x = new AuntsInTurn();
        for (int i = 0; i < 5; i++) {
            Edges.due("valley " + i, Check.valley(x, "nerve " + (20 + i)), i);
            Edges.due("one with a FAULT has no number", Check.valley(x, "x"), i < 4 ? -10 : Edges.FULL);
        }
        Edges.due("VALLEYS", x.count(2), 5);
        Edges.due("a sixth", Check.valley(x, "nerve 30"), Edges.FULL);
        Edges.due("the fifth holds", x.told(1), 24);
    }

    @Edge(of = "Terms 1", says = "the newest one holds; without one there are no CLAUSES.")
    static void theNewestHoldsAlone() {
        AuntsInTurn x = played("aunt 0 1 255");
        Edges.due("MOUTH without one", x.says(0, 0, 1), 1);
        Edges.due("NERVE without one", x.told(1), 12);
        Played.on(x, "text nerve 5;bold 2 p=0", "valley");
        Edges.due("MOUTH by the first", x.says(0, 0, 1), 3);
        Edges.due("NERVE by the first", x.told(1), 5);
        Played.on(x, "text bold 4 p=0", "valley");
        Edges.due("MOUTH by the second alone", x.says(0, 0, 1), 5);
        Edges.due("NERVE by the second alone", x.told(1), 12);
        Played.on(x, "text nerve 7;bold", "valley");
        Edges.due("MOUTH where the third has a FAULT", x.says(0, 0, 1), 5);
        Edges.due("NERVE where the third has a FAULT", x.told(1), 12);
    }

    @Edge(of = "Terms 1", says = "NERVE (12 without): the last n of nerve.")
    static void nerveIs12WithoutAndElseTheLast() {
        String[] texts = {"bold 1 p=1", "nerve 0", "nerve 99", "nerve 3;nerve 8", "nerve 8;nerve 3", "nerve 4;shy 1 p=1",
            "shy 1 p=1;nerve 4", "nerve 1;".repeat(9) + "nerve 13"};
        int[] nerves = {12, 0, 99, 8, 3, 4, 4, 13};
        Edges.due("NERVE without a VALLEY", new AuntsInTurn().told(1), 12);
        for (int i = 0; i < texts.length; i++) {
            Edges.due("NERVE by " + texts[i], played("text " + texts[i], "valley").told(1), nerves[i]);
        }
    }
}
