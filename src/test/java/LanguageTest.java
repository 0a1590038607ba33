/** Promises 5 to 7 and 10, as far as they read: ENTRIES, FAULTS and their places. */
public final class LanguageTest {
    private static final String SPLIT = "on 1800-01-01 split land by ";

    public static void main(String[] args) {
        entersAllActs();
        tokens();
        firstFaults();
        dates();
        shares();
        numbersOfEntries();
        tooMany();
        tooFarBehind();
        supposesNoOrders();
        questions();
        open();
        fullRegister();
        Registry.finish("LanguageTest");
    }

    private static void entersAllActs() {
        String[] acts = {"person a born 1800-01-01", "firm a by b", "guard a by b", "death a", "death a to b, c 1/2",
            "close a", "sell l from a to b for 1", "sell l from a 2/3 to b 1/2, c 1/2 for 0",
            "split l by (0,0) (999999,7) into a, b", "join a, b into c", "border a, b by (1,2)",
            "charge c on l, m to a for 5", "pay c for 5", "assign c to a", "rank c before d on l", "free l from c",
            "auction l by c to a for 5", "serve s way of l over m at (1,2)", "serve s water of l over m at (1,2)",
            "serve s light of l over m at (1,2)", "waive s", "lease x on l to a until 1900-01-01 for 5",
            "caution x on l by a", "option x on l to a until 1900-01-01", "take x", "end x"};
        Registry r = new Registry();
        int number = 0;
        for (String act : acts) {
            number++;
            Registry.due("entered: " + act, r.enter("on 1800-01-01 " + act), number);
            Registry.due("no fault: " + act, r.house.fault(), 0);
            Registry.due("supposed: " + act, r.suppose("on 1800-01-01 " + act) >= 0, true);
        }
        Registry.due("annul", r.enter("annul #1"), number + 1);
        Registry.due("correct", r.enter("correct #2 to on 1800-01-01 take x"), number + 2);
        Registry.due("an order is annulled", r.enter("annul # " + (number + 1)), number + 3);
        Registry.due("entries", r.house.count(0), number + 3);
    }

    private static void tokens() {
        Registry r = new Registry();
        Registry.due("no blanks where none must be", r.enter("on1800-01-01 take x"), -1);
        Registry.due("line ends", r.enter("\n\non\n1800-01-01\n take\nx \n"), 1);
        Registry.due("close together", r.enter("on 1800-01-01split l by(0,0)(1,1)into a,b"), -4);
        Registry.due("points close together", r.enter("on 1800-01-01 split l by(0,0)(1,1)into a,b"), 2);
        Registry.due("numbers with 0s ahead", r.enter("annul #000001"), 3);
        r.faulty('e', 1, 7, "annul #0000001");
        r.faulty('e', 1, 19, "on 1800-01-01 take abcdefghi");
        Registry.due("eight bytes", r.enter("on 1800-01-01 take abcdefgh"), 4);
        r.faulty('e', 1, 19, "on 1800-01-01 take 1a");
        r.faulty('e', 1, 19, "on 1800-01-01 take A");
        r.faulty('e', 1, 19, "on 1800-01-01 take end");
        r.faulty('e', 1, 20, "on 1800-01-01 take x\t");
        r.faulty('e', 1, 20, "on 1800-01-01 take x\u007f");
        r.faulty('e', 1, 3, "on 1800-1-01 take x");
        r.faulty('e', 1, 3, "on 1800-01-011 take x");
        r.faulty('e', 1, 3, "on 1800-01-01a take x");
        r.faulty('a', 1, 28, "count lots where area = 1   != 2");
        r.faulty('a', 1, 22, "count lots where area !2");
        Registry.due("signs as long as can be", r.ask("count lots where area<=1"), 0);
        r.faulty('a', 1, 23, "count lots where area =< 1");
        Registry.due("a word that is in no quotes is a name", r.enter("on 1800-01-01 take lot"), 5);
    }

    private static void firstFaults() {
        Registry r = new Registry();
        r.faulty('e', 1, 0, "");
        r.faulty('e', 1, 2, "  ");
        r.faulty('e', 1, 2, "on");
        r.faulty('e', 1, 0, "x");
        r.faulty('e', 1, 0, "count lots");
        r.faulty('e', 1, 14, "on 1800-01-01 x");
        r.faulty('e', 1, 14, "on 1800-01-01 annul #1");
        r.faulty('e', 1, 19, "on 1800-01-01 take ");
        r.faulty('e', 1, 21, "on 1800-01-01 take x y");
        r.faulty('e', 1, 28, "on 1800-01-01 death a to b, for");
        r.faulty('e', 1, 28, SPLIT);
        r.faulty('e', 1, 33, SPLIT + "(0,0)");
        r.faulty('e', 1, 28, SPLIT + "into a, b");
        r.faulty('e', 1, 30, SPLIT + "(0)");
        r.faulty('e', 1, 22, "on 1800-01-01 serve s path of a over b at (1,2)");
        r.faulty('e', 1, 30, "on 1800-01-01 sell l from a 1 2 for 5");
        // the first one along the text is told, of whatever kind
        r.faulty('e', 2, 3, "on 1800-02-30 x");
        r.faulty('e', 1, 14, "on 1800-01-01 x born 1800-02-30");
    }

    private static void dates() {
        Registry r = new Registry();
        r.faulty('e', 2, 3, "on 1800-02-29 take x");
        Registry.due("1704-02-29", r.enter("on 1704-02-29 take x"), 1);
        Registry.due("2000-02-29", r.enter("on 2000-02-29 take x"), 2);
        r.faulty('e', 2, 3, "on 2100-02-29 take x");
        r.faulty('e', 2, 3, "on 1699-12-31 take x");
        Registry.due("1700-01-01", r.enter("on 1700-01-01 take x"), 3);
        r.faulty('e', 2, 3, "on 2300-01-01 take x");
        Registry.due("2299-12-31", r.enter("on 2299-12-31 take x"), 4);
        r.faulty('e', 2, 3, "on 1800-00-01 take x");
        r.faulty('e', 2, 3, "on 1800-13-01 take x");
        r.faulty('e', 2, 3, "on 1800-01-00 take x");
        r.faulty('e', 2, 3, "on 1800-04-31 take x");
        r.faulty('e', 2, 28, "on 1800-01-01 person a born 1799-02-29");
        r.faulty('a', 2, 3, "at 1800-06-31 count lots");
        r.faulty('a', 2, 6, "known 0000-00-00 count lots");
    }

    private static void shares() {
        Registry r = new Registry();
        String sell = "on 1800-01-01 sell l from a ";
        r.faulty('e', 2, 28, sell + "0/1 to b for 5");
        r.faulty('e', 2, 30, sell + "1/0 to b for 5");
        r.faulty('e', 2, 28, sell + "1001/1 to b for 5");
        r.faulty('e', 2, 33, sell + "1000/1001 to b for 5");
        r.faulty('e', 2, 33, sell + "to b 0/1 for 5");
        Registry.due("1000/1000", r.enter(sell + "1000/1000 to b 1/1000 for 5"), 1);
    }

    private static void numbersOfEntries() {
        Registry r = new Registry();
        r.faulty('e', 3, 7, "annul #1");
        r.faulty('e', 3, 7, "annul #0");
        Registry.due("a deed", r.enter("on 1800-01-01 take x"), 1);
        r.faulty('e', 3, 7, "annul #2");
        Registry.due("annul #1", r.enter("annul #1"), 2);
        r.faulty('e', 3, 9, "correct #2 to on 1800-01-01 take x");
        r.faulty('e', 3, 9, "correct #3 to on 1800-01-01 take x");
        Registry.due("annul #2", r.enter("annul #2"), 3);
        r.faulty('e', 1, 6, "annul 1");
        r.faulty('e', 1, 11, "correct #1 on 1800-01-01 take x");
        r.faulty('e', 1, 14, "correct #1 to annul #1");
        r.faulty('e', 1, 9, "annul #1 to on 1800-01-01 take x");
    }

    private static void tooMany() {
        Registry r = new Registry();
        String points = "(1,1)(2,2)(3,3)(4,4)(5,5)(6,6)(7,7)(8,8)(9,9)(1,2)(1,3)(1,4)";
        Registry.due("12 points", r.enter(SPLIT + points + "into a,b"), 1);
        r.faulty('e', 4, 28 + 60, SPLIT + points + "(1,5)into a,b");
        r.faulty('e', 4, 28 + 60, SPLIT + points + "(x");
        r.faulty('e', 1, 28 + 60, SPLIT + points + ")");
        Registry.due("6 parts", r.enter("on 1800-01-01 death n to a,b,c,d,e,f"), 2);
        r.faulty('e', 4, 37, "on 1800-01-01 death n to a,b,c,d,e,f,g");
        r.faulty('e', 1, 37, "on 1800-01-01 death n to a,b,c,d,e,f,7");
        r.faulty('e', 4, 47, "on 1800-01-01 sell l from n to a,b,c 1/2,d,e,f,g for 5");
        Registry.due("6 names", r.enter("on 1800-01-01 charge n on a,b,c,d,e,f to m for 5"), 3);
        r.faulty('e', 4, 38, "on 1800-01-01 charge n on a,b,c,d,e,f,g to m for 5");
    }

    private static String padded(String text, int length) {
        return text + " ".repeat(length - text.length());
    }

    private static void tooFarBehind() {
        Registry r = new Registry();
        String take = "on 1800-01-01 take ";
        Registry.due("600 bytes", r.enter(padded(take + "x", 600)), 1);
        r.faulty('e', 4, 601, padded(take + "x", 601));
        r.faulty('e', 4, 640, padded(take + "x", 640));
        Registry.due("the last token at 599", r.enter(padded(take, 599) + "x"), 2);
        r.faulty('e', 4, 600, padded(take, 600) + "x");
        r.faulty('e', 4, 602, padded(take, 598) + "xxxx");
        r.faulty('e', 1, 602, padded(take, 602));
        r.faulty('e', 1, 605, padded(take, 605) + "7");
        r.faulty('e', 1, 605, padded(take + "x", 605) + "y");
        r.faulty('e', 2, 610, padded("on 1800-01-01 person a born", 610) + "1800-02-30");
        r.faulty('e', 4, 610, padded("on 1800-01-01 person a born", 610) + "1800-01-30");
        r.faulty('e', 3, 610, padded("annul #", 610) + "9");
        r.faulty('e', 4, 610, padded("annul #", 610) + "1");
        r.faulty('a', 4, 640, padded("count lots", 640));
    }

    private static void supposesNoOrders() {
        Registry r = new Registry();
        Registry.due("a deed", r.enter("on 1800-01-01 take x"), 1);
        r.faulty('s', 1, 0, "annul #1");
        r.faulty('s', 1, 1, " correct #1 to on 1800-01-01 take x");
        r.faulty('s', 2, 3, "on 1800-02-31 take x");
        r.faulty('s', 1, 21, "on 1800-01-01 take x y");
        r.faulty('s', 1, 20, "on 1800-01-01 take x, y");
        r.faulty('s', 4, 602, padded("on 1800-01-01 take x", 602));
        r.faulty('s', 1, 0, "");
        Registry.due("nothing is entered", r.suppose("on 1800-01-01 take x"), 1);
        Registry.due("fault of what fails", r.house.fault(), 0);
        Registry.due("the tape is empty", r.house.count(1), 0);
        Registry.due("entries", r.house.count(0), 1);
    }

    private static void questions() {
        Registry r = new Registry();
        r.replies("2", "sum 2 over lots where 1=2 or area = 1000*2000 and corners >= 4 or 2<1");
        r.faulty('a', 1, 0, "");
        r.faulty('a', 1, 0, "on 1800-01-01 take x");
        r.faulty('a', 1, 14, "at 1800-01-01 at 1800-01-01 count lots");
        r.faulty('a', 1, 17, "known 1800-01-01 at 1800-01-01 count lots");
        r.faulty('a', 1, 6, "count lot");
        r.faulty('a', 1, 5, "show 7");
        r.faulty('a', 1, 5, "show lots");
        r.faulty('a', 1, 11, "count lots who");
        r.faulty('a', 1, 16, "count lots where");
        r.faulty('a', 1, 21, "count lots where area");
        r.faulty('a', 1, 22, "count lots where area and 1 = 1");
        r.faulty('a', 1, 24, "count lots where 1  = 2 = 2");
        r.faulty('a', 1, 17, "count lots where -1 = 2");
        r.faulty('a', 1, 19, "count lots where { }1= 2");
        r.faulty('a', 1, 21, "count lots where {1=1)");
        r.faulty('a', 1, 21, "count lots where has 1,2");
        r.faulty('a', 1, 24, "count lots where has (1 2)");
        r.faulty('a', 1, 23, "count lots where owner 7");
        r.faulty('a', 1, 9, "sum area lots");
        r.faulty('a', 1, 5, "most owner over lots");
        r.faulty('a', 1, 4, "sum 1800-01-01 over lots");
        r.replies("5", "sum 1800-1-01-1793 over lots");
    }

    private static void open() {
        Registry r = new Registry();
        r.replies("1", "count lots where {{{{{{{{{{1=1}}}}}}}}}}");
        r.faulty('a', 4, 27, "count lots where {{{{{{{{{{{1=1}}}}}}}}}}}");
        r.replies("1", "count lots where not not not not not not not not not not 1=1");
        r.faulty('a', 4, 57, "count lots where not not not not not not not not not not not 1=1");
        r.replies("1", "count lots where ((((((((((1))))))))))=1");
        r.faulty('a', 4, 27, "count lots where (((((((((((1)))))))))))=1");
        r.replies("1", "count lots where {not {not {not {not {(1)=1}}}}}");
        r.faulty('a', 4, 42, "count lots where {not {not {not {not {not ((1))=2}}}}}");
        // what is closed counts no more; the sign of has not at all
        r.replies("1", "count lots where {{{{{{{{{{1=1}}}}}}}}}} and not not not not not not not not not not 1=1");
        r.replies("1", "count lots where {{{{{{{{{{has (0,0)}}}}}}}}}}");
        r.replies("0", "count lots where not {{{{{{{{{1=1}}}}}}}}} and not {{{{{{{{{1=1}}}}}}}}}");
    }

    private static void fullRegister() {
        Registry r = new Registry();
        for (int i = 1; i <= 150; i++) {
            Registry.due("entry", r.enter("on 1800-01-01 take x"), i);
        }
        Registry.due("a 151st", r.enter("on 1800-01-01 take x"), -1000);
        Registry.due("its fault", r.house.fault(), 0);
        Registry.due("the tape then", r.house.count(1), 0);
        r.faulty('e', 1, 3, "on x");
        r.faulty('e', 3, 7, "annul #151");
        Registry.due("an order, too", r.enter("annul #150"), -1000);
        Registry.due("entries", r.house.count(0), 150);
        Registry.due("suppose goes on", r.suppose("on 1800-01-01 take x"), 1);
    }
}
