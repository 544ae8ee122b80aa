/** Promises 2 and 3: THE TAPE, what is a VALLEY, where its FAULT is, NERVE and MOUTH by it. */
public final class ValleysTest {
    private static final Check check = new Check();

    public static void main(String[] args) {
        tape();
        words();
        numbers();
        conditions();
        open();
        clauses();
        holding();
        nerve();
        mouthBySubject();
        mouthByJoints();
        mouthTogether();
        check.end();
    }

    private static void tape() {
        AuntsInTurn x = new AuntsInTurn();
        check.due("feed(-1)", x.feed(-1), -2);
        check.due("feed(128)", x.feed(128), -2);
        check.due("feed(MAX)", x.feed(Integer.MAX_VALUE), -2);
        check.due("feed(MIN)", x.feed(Integer.MIN_VALUE), -2);
        check.due("no sign came", x.count(6), 0);
        check.due("feed(0)", x.feed(0), 1);
        check.due("feed(127)", x.feed(127), 2);
        for (int i = 3; i <= 100; i++) {
            check.due("feed " + i, x.feed('n'), i);
        }
        check.due("feed when full", x.feed('n'), -4);
        check.due("BAD ahead of FULL", x.feed(128), -2);
        check.due("signs", x.count(6), 100);
        check.due("fault at the first", x.valley(), -10);
        check.due("tape is empty by a fault, too", x.count(6), 0);
        check.due("feed goes on from nothing", x.feed('n'), 1);
    }

    private static void fault(String text, int want) {
        AuntsInTurn x = new AuntsInTurn();
        check.due("valley of '" + text + "'", Check.valley(x, text), -10 - want);
        check.due("tape after '" + text + "'", x.count(6), 0);
        check.due("valleys after '" + text + "'", x.count(2), 0);
    }

    private static void well(String text) {
        AuntsInTurn x = new AuntsInTurn();
        check.due("valley of '" + text + "'", Check.valley(x, text), 0);
        check.due("tape after '" + text + "'", x.count(6), 0);
        check.due("valleys after '" + text + "'", x.count(2), 1);
    }

    private static void words() {
        fault("", 0);
        fault("x", 0);
        fault(" nerve 1", 0);
        fault("Nerve 1", 0);
        fault(";nerve 1", 0);
        fault("1", 0);
        fault("n", 1);
        fault("nervx 1", 4);
        fault("nerve", 5);
        fault("nerve1", 5);
        fault("nerve ", 6);
        fault("nerve  1", 6);
        fault("nerve 1 ", 7);
        fault("b", 1);
        fault("bald 1 p=1", 1);
        fault("bold", 4);
        fault("bold1 p=1", 4);
        fault("bold ", 5);
        fault("bold 1", 6);
        fault("bold 1p=1", 6);
        fault("bold 1 ", 7);
        fault("bold 1  p=1", 7);
        fault("s", 1);
        fault("shy", 3);
        fault("sly 1 p=1", 1);
        fault("shy 1", 5);
        fault("shy 1;nerve 1", 5);
        fault("shy 1 ", 6);
        well("nerve 1");
        well("bold 1 p=1");
        well("shy 1 p=1");
    }

    private static void numbers() {
        well("nerve 0");
        well("nerve 9");
        well("nerve 10");
        well("nerve 99");
        fault("nerve x", 6);
        fault("nerve -1", 6);
        fault("nerve 00", 7);
        fault("nerve 07", 7);
        fault("nerve 100", 8);
        fault("nerve 1:", 7);
        fault("nerve /", 6);
        well("bold 0 p=0");
        well("bold 12 p=12");
        fault("bold 05 p=1", 6);
        fault("bold 123 p=1", 7);
        fault("shy 1 p=01", 9);
        fault("shy 1 p=123", 10);
    }

    private static void conditions() {
        for (char subject : "pkvhld".toCharArray()) {
            for (char relation : "<=>".toCharArray()) {
                well("shy 1 " + subject + relation + "5");
            }
        }
        fault("shy 1 p", 7);
        fault("shy 1 p=", 8);
        fault("shy 1 p!1", 7);
        fault("shy 1 p==1", 8);
        fault("shy 1 a=1", 6);
        fault("shy 1 =1", 6);
        fault("shy 1 p1", 7);
        fault("shy 1 P=1", 6);
        fault("shy 1 5=p", 6);
        fault("shy 1 p=p", 8);
        fault("shy 1 p=1 ", 9);
        fault("shy 1 p=1q", 9);
        fault("shy 1 p=1&", 10);
        fault("shy 1 p=1|", 10);
        fault("shy 1 p=1&&p=1", 10);
        fault("shy 1 p=1|&p=1", 10);
        fault("shy 1 &p=1", 6);
        fault("shy 1 p=1!p=1", 9);
        fault("shy 1 p=1(p=1)", 9);
        fault("shy 1 ()", 7);
        fault("shy 1 (p=1", 10);
        fault("shy 1 (p=1;", 10);
        fault("shy 1 p=1)", 9);
        fault("shy 1 (p=1))", 11);
        fault("shy 1 !", 7);
        fault("shy 1 !&p=1", 7);
        well("shy 1 !(p=1)&!h>2|(k<6)|!!l=3");
        well("shy 1 (((p=1|k=2)&v=3)|h=4)");
        String long99 = "bold 1 " + "p=1&".repeat(23);
        fault(long99 + "p", 100);
        fault("bold 1 (" + "p=1&".repeat(22) + "p=1", 99);
    }

    private static void open() {
        well("shy 1 !!!!!p=1");
        fault("shy 1 !!!!!!p=1", 11);
        fault("shy 1 !!!!!(p=1)", 11);
        well("shy 1 (((((p=1)))))");
        fault("shy 1 ((((((p=1))))))", 11);
        well("shy 1 !(!(!p=1))");
        fault("shy 1 !(!(!(p=1)))", 11);
        fault("shy 1 (p=1&(p=1&(p=1&(p=1&(p=1&(p=1", 31);
        well("shy 1 !p=1&!p=1&!p=1&!p=1&!p=1&!p=1|!p=1");
        well("shy 1 (p=1)&(p=1)&(p=1)&(p=1)&(p=1)&(p=1)");
        well("shy 1 !((((p=1))))&!!!!!p=1");
        well("shy 1 (!!!!p=1&!!!!p=2)");
        fault("shy 1 (!!!!p=1&!!!!!p=2)", 19);
        fault("shy 1 !(p=1&(((((", 15);
    }

    private static void clauses() {
        String ten = "nerve 1;".repeat(9) + "nerve 1";
        well(ten);
        fault(ten + ";", 79);
        fault(ten + ";nerve 1", 79);
        well("shy 1 p=1;".repeat(9) + "bold 9 p=1");
        fault("shy 1 p=1;".repeat(10), 99);
        fault("nerve 1;", 8);
        fault("nerve 1;;nerve 1", 8);
        fault("nerve 1; nerve 1", 8);
        fault("nerve 1,nerve 1", 7);
        well("shy 9 p=1;bold 2 k=1&h<3;nerve 20");
        fault("shy 9 p=1;bold 2 k=1&h<3;nerve", 30);
    }

    private static void holding() {
        AuntsInTurn x = new AuntsInTurn();
        check.due("valley 0", Check.valley(x, "nerve 20"), 0);
        check.due("valley with a fault", Check.valley(x, "nerve 30;"), -19);
        check.due("NERVE by the one that held", x.told(1), 20);
        check.due("valley 1", Check.valley(x, "nerve 40"), 1);
        check.due("NERVE by the newest", x.told(1), 40);
        check.due("valley 2", Check.valley(x, "nerve 41"), 2);
        check.due("valley 3", Check.valley(x, "nerve 42"), 3);
        check.due("valley 4", Check.valley(x, "nerve 43"), 4);
        check.due("FULL", Check.valley(x, "nerve 44"), -4);
        check.due("the tape stays", x.count(6), 8);
        check.due("NERVE still", x.told(1), 43);
        check.due("FULL ahead of a fault", Check.valley(x, "x"), -4);
        check.due("the tape stays again", x.count(6), 9);
        check.due("VALLEYS", x.count(2), 5);
    }

    private static void nerve() {
        AuntsInTurn x = new AuntsInTurn();
        check.due("NERVE without a valley", x.told(1), 12);
        Check.valley(x, "nerve 3;nerve 99;nerve 7");
        check.due("the last nerve", x.told(1), 7);
        Check.valley(x, "bold 1 p=1");
        check.due("NERVE without nerve", x.told(1), 12);
        Check.valley(x, "nerve 0;shy 1 p=1");
        check.due("NERVE 0", x.told(1), 0);
    }

    private static AuntsInTurn three(String text) {
        AuntsInTurn x = new AuntsInTurn();
        x.aunt(0, 1, 15);
        x.aunt(1, 6, 200);
        x.aunt(5, 3, 85);
        check.due("valley of '" + text + "'", Check.valley(x, text), 0);
        return x;
    }

    /** The mouths of an AUNT (v 1), a BLUNT (v 6) and a BAKER (v 3) by what is heard. */
    private static void mouths(String text, int heard, int first, int second, int third) {
        AuntsInTurn x = three(text);
        check.due(text + ": mouth of 0", x.says(0, heard, 1), first);
        check.due(text + ": mouth of 1", x.says(1, heard, 1), second);
        check.due(text + ": mouth of 2", x.says(2, heard, 1), third);
    }

    private static void mouthBySubject() {
        mouths("nerve 5", 0, 1, 1, 1);
        mouths("bold 5 p<1", 0, 6, 1, 1);
        mouths("bold 5 p=1", 0, 1, 6, 1);
        mouths("bold 5 p>1", 0, 1, 1, 6);
        mouths("bold 5 k<1", 0, 6, 1, 1);
        mouths("bold 5 k=1", 0, 1, 6, 1);
        mouths("bold 5 k=5", 0, 1, 1, 6);
        mouths("bold 5 k>4", 0, 1, 1, 6);
        mouths("bold 5 v<3", 0, 6, 1, 1);
        mouths("bold 5 v=3", 0, 1, 1, 6);
        mouths("bold 5 v>3", 0, 1, 6, 1);
        mouths("bold 5 h<3", 7, 1, 1, 1);
        mouths("bold 5 h=3", 7, 6, 6, 6);
        mouths("bold 5 h>2", 7, 6, 6, 6);
        mouths("bold 5 h>3", 7, 1, 1, 1);
        mouths("bold 5 l=4", 0, 6, 1, 6);
        mouths("bold 5 l=1", 7, 6, 1, 1);
        mouths("bold 5 l=2", 7, 1, 1, 6);
        mouths("bold 5 l<1", 15, 6, 1, 1);
        mouths("bold 99 p<99", 0, 100, 100, 100);
        AuntsInTurn x = three("bold 5 d=3");
        check.due("d on DAY 0", x.says(0, 0, 1), 1);
        x.pass(3);
        check.due("d on DAY 3", x.says(0, 0, 1), 6);
        x.pass(10);
        check.due("d on DAY 13", x.says(0, 0, 1), 6);
        x.pass(1);
        check.due("d on DAY 14", x.says(0, 0, 1), 1);
        AuntsInTurn y = three("bold 5 d>9");
        y.pass(10);
        check.due("d is never above 9", y.says(0, 0, 1), 1);
    }

    private static void mouthByJoints() {
        mouths("bold 5 !p=1", 0, 6, 1, 6);
        mouths("bold 5 !!p=1", 0, 1, 6, 1);
        mouths("bold 5 p<2&v=6", 0, 1, 6, 1);
        mouths("bold 5 p=0|p=2", 0, 6, 1, 6);
        // & binds closer than |, ! closer than &
        mouths("bold 5 p=1|p=0&v=9", 0, 1, 6, 1);
        mouths("bold 5 v=9&p=0|p=1", 0, 1, 6, 1);
        mouths("bold 5 (p=1|p=0)&v=1", 0, 6, 1, 1);
        mouths("bold 5 v=1&(p=1|p=0)", 0, 6, 1, 1);
        mouths("bold 5 !p=0|v=1", 0, 6, 6, 6);
        mouths("bold 5 !p=0&v=3", 0, 1, 1, 6);
        mouths("bold 5 !(p=0|v=3)", 0, 1, 6, 1);
        mouths("bold 5 p=0&k=0&v=1", 0, 6, 1, 1);
        mouths("bold 5 p=9|k=9|v=3", 0, 1, 1, 6);
        mouths("bold 5 p=9|(k=9|(v=3|(p=9&(h=9|p=9))))", 0, 1, 1, 6);
        mouths("bold 5 p=0&(k=0&(v=1&(h=0|(l=9&h=9))))", 0, 6, 1, 1);
        mouths("bold 5 !(!(!p=0))", 0, 1, 6, 6);
    }

    private static void mouthTogether() {
        mouths("bold 2 p<9;bold 3 v=1;shy 4 h>0", 0, 6, 3, 3);
        mouths("bold 2 p<9;bold 3 v=1;shy 4 h>0", 1, 2, 0, 0);
        mouths("shy 9 p<9;bold 3 p<9", 0, 0, 0, 0);
        mouths("shy 9 p<9;bold 10 p<9", 0, 2, 2, 2);
        mouths("shy 1 p=1;nerve 50;bold 0 p=0", 0, 1, 0, 1);
        // each of ten clauses counts
        mouths("shy 1 p=1;".repeat(9) + "bold 9 p=1", 0, 1, 1, 1);
        mouths("bold 9 p=1;" + "shy 1 p=1;".repeat(8) + "shy 0 p=1", 0, 1, 2, 1);
        AuntsInTurn x = three("bold 5 p<9");
        Check.valley(x, "shy 1 p=0");
        check.due("only the newest holds", x.says(0, 0, 1), 0);
        check.due("only the newest holds for 1", x.says(1, 0, 1), 1);
        check.due("no more than are left", x.says(1, 192, 2), 8);
    }
}
