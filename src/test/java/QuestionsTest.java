/** Promises 10 to 12: ask, answer, octet; what QUESTIONS tell. */
public final class QuestionsTest {
    public static void main(String[] args) {
        answersStay();
        sets();
        conds();
        values();
        wrapping();
        shows();
        traces();
        daysOfQuestions();
        longTexts();
        Registry.finish("QuestionsTest");
    }

    private static void answersStay() {
        Registry r = new Registry();
        r.replies("1 land ", "list lots");
        r.faulty('a', 1, 5, "list lot");
        Registry.due("the answer stays", r.house.answer(), 1);
        Registry.due("the text stays", r.text(), "land ");
        Registry.due("an entry leaves it", r.enter("on 1700-01-01 person a born 1700-01-01"), 1);
        Registry.due("the fault is the latest one", r.house.fault(), 0);
        Registry.due("the text stays still", r.text(), "land ");
        Registry.due("byte 0", r.house.octet(0), 'l');
        Registry.due("byte 4", r.house.octet(4), ' ');
        Registry.missing("byte 5", () -> r.house.octet(5));
        Registry.missing("byte -1", () -> r.house.octet(-1));
        r.replies("2000000", "sum area over lots");
        Registry.due("no text", r.house.count(2), 0);
        Registry.missing("byte 0 of none", () -> r.house.octet(0));
        r.replies("0", "count charges");
        r.replies("0", "list charges");
        r.replies("0", "most area over persons where named x");
        r.replies("-5", "most 0-5 over persons");
        r.replies("-2", "most 0-5+area*0+corners*3-9 over lots");
    }

    private static void sets() {
        Registry r = Registry.furnished();
        String at = "at 1800-02-01 ";
        r.replies("2 west east ", at + "list lots");
        r.replies("5 crown anna bert kid bank ", at + "list persons");
        r.replies("2 c1 c2 ", at + "list charges");
        r.replies("1 s1 ", at + "list serves");
        r.replies("1 x1 ", at + "list leases");
        r.replies("1 d1 ", at + "list cautions");
        r.replies("1 o1 ", at + "list options");
        r.replies("1 o1 ", "at 1809-12-31 list options");
        r.replies("0", "at 1810-01-01 list options");
        r.replies("0", "at 1801-02-01 count leases");
    }

    private static void conds() {
        Registry r = Registry.furnished();
        String at = "at 1800-02-01 ";
        r.replies("1 west ", at + "list lots where owner anna");
        r.replies("1 east ", at + "list lots where owner crown");
        r.replies("0", at + "list lots where owner west");
        r.replies("0", at + "list lots where owner nobody");
        r.replies("1 c1 ", at + "list charges where owner bank");
        r.replies("1 x1 ", at + "list leases where owner bert");
        r.replies("1 d1 ", at + "list cautions where owner bank");
        r.replies("1 o1 ", at + "list options where owner bert");
        r.replies("0", at + "list persons where owner anna");
        r.replies("0", at + "list serves where owner anna");
        r.replies("1 c1 ", at + "list charges where on east");
        r.replies("2 c1 c2 ", at + "list charges where on west");
        r.replies("0", at + "list charges where on land or on bank or on nothing");
        r.replies("1 s1 ", at + "list serves where on east");
        r.replies("0", at + "list serves where on west");
        r.replies("1 x1 ", at + "list leases where on east");
        r.replies("1 d1 ", at + "list cautions where on east");
        r.replies("1 o1 ", at + "list options where on west");
        r.replies("0", at + "list lots where on west");
        Registry first = new Registry();
        first.done("on 1700-01-01 charge c on land to crown for 5");
        first.replies("1 c ", "list charges where on land and owner crown");
        r.replies("1 east ", at + "list lots where near west");
        r.replies("0", at + "list lots where near land or near bank or near nothing");
        r.replies("0", at + "list persons where near west");
        r.replies("1 kid ", at + "list persons where named kid");
        r.replies("0", at + "list persons where named west");
        r.replies("2 west east ", at + "list lots where has (500,3)");
        r.replies("1 west ", at + "list lots where has (499,3)");
        r.replies("0", at + "list persons where has (499,3)");
        r.replies("4 crown anna bert bank ", at + "list persons where adult");
        r.replies("5 crown anna bert kid bank ", "at 1813-03-03 list persons where adult");
        r.replies("4 crown anna bert bank ", "at 1813-03-02 list persons where adult");
        r.replies("0", at + "list lots where adult");
        // and binds first, then or; not binds one; braces as they stand
        r.replies("2 west east ", at + "list lots where named west or named east and named west or named east");
        r.replies("1 west ", at + "list lots where named west or named east and named west");
        r.replies("1 west ", at + "list lots where {named west or named east} and named west");
        r.replies("0", at + "list lots where not named west and named west");
        r.replies("1 east ", at + "list lots where not {named west and named west}");
        r.replies("1 west ", at + "list lots where not not named west");
        r.replies("2 west east ", at + "list lots where not named west or named west");
    }

    private static void values() {
        Registry r = Registry.furnished();
        String at = "at 1800-02-01 ";
        r.replies("2000000", at + "sum area over lots");
        r.replies("8", at + "sum corners over lots");
        r.replies("3", at + "sum owners over lots");
        r.replies("70", at + "sum price over lots");
        r.replies("1020", at + "sum debts over lots");
        r.replies("520", at + "sum debts over charges");
        r.replies("520", at + "sum debts over persons");
        r.replies("500", at + "sum debts over persons where named bank");
        r.replies("39", at + "sum age over persons where named anna");
        r.replies("40", "at 1800-05-05 most age over persons");
        r.replies("39", "at 1800-05-04 most age over persons");
        r.replies("0", at + "sum age over persons where named bank or named crown");
        r.replies("30", at + "sum rent over leases");
        r.replies("366", at + "sum left+1 over leases");
        r.replies("180", at + "sum left over cautions");
        r.replies("1", "at 1809-12-31 sum left over options");
        r.replies("2", at + "sum points over serves");
        r.replies("1", at + "sum lots over persons where named anna");
        r.replies("0", at + "sum lots over persons where named bank");
        r.replies("3", at + "sum lots over charges");
        r.replies("1", at + "sum lots over serves");
        r.replies("1", at + "sum lots over leases");
        r.replies("1", at + "sum lots over cautions");
        r.replies("1", at + "sum lots over options");
        r.replies("0", at + "sum lots+age+rent+left+points over lots");
        r.replies("0", at + "sum area+corners+owners+price+rent+left+points over persons");
        r.replies("0", at + "sum area+debts+points+age+price over leases");
        r.replies("0", at + "sum rent+points+debts over options");
        r.replies("0", at + "sum left+rent+debts over serves");
        r.replies("14", at + "sum 2+3*4 over lots where named west");
        r.replies("20", at + "sum (2+3)*4 over lots where named west");
        r.replies("5", at + "sum 10-3-2 over lots where named west");
        r.replies("-10", at + "sum 10-(3+2)*4 over lots where named west");
        r.replies("500", at + "most debts over charges");
        String[] signs = {"=", "!=", "<", "<=", ">", ">="};
        String[] want = {"100", "011", "010", "110", "001", "101"};
        for (int i = 0; i < signs.length; i++) {
            r.replies(want[i].substring(0, 1), "count persons where named crown and 7" + signs[i] + "7");
            r.replies(want[i].substring(1, 2), "count persons where named crown and 0-7" + signs[i] + "7");
            r.replies(want[i].substring(2), "count persons where named crown and 7" + signs[i] + "0-7");
        }
    }

    private static void wrapping() {
        Registry r = new Registry();
        long n = 999999L;
        r.replies(Long.toString(n * n * n * n), "sum 999999*999999*999999*999999 over lots");
        r.replies(Long.toString(n * n * n * 999999L * 16), "most 999999*999999*999999*999999*16 over lots");
        r.replies("1", "count lots where 999999*999999*999999*16 < 0 or 999999*999999*999999*16 > 0");
    }

    private static void shows() {
        Registry r = Registry.furnished();
        String at = "at 1800-02-01 ";
        r.replies("-1", at + "show nothing");
        r.replies("0 lot west 1000000\nat (0,0) (500,0) (500,1000) (0,1000)\nanna 2/3\nkid 1/3\ncharge c1 500\ncharge c2 20\n"
            + "serve s1 water of\noption o1 bert 1810-01-01\n", at + "show west");
        r.replies("0 lot east 1000000\nat (500,0) (1000,0) (1000,1000) (500,1000)\ncrown 1/1\ncharge c1 500\n"
            + "serve s1 water over\nlease x1 bert 1801-02-01\ncaution d1 bank\n", at + "show east");
        r.replies("0 lot land ended\n", at + "show land");
        r.replies("1 firm crown\neast 1/1\n", at + "show crown");
        r.replies("1 person anna 1760-05-05\nwest 2/3\n", at + "show anna");
        r.replies("1 person bert 1770-01-01\ncharge c2 20\n", at + "show bert");
        r.replies("1 firm bank anna\ncharge c1 500\n", at + "show bank");
        r.replies("2 charge c1 bank 500\non west 1\non east 1\n", at + "show c1");
        r.replies("2 charge c2 bert 20\non west 2\n", at + "show c2");
        r.replies("3 serve s1 water\nof west\nover east\n", at + "show s1");
        r.replies("4 lease x1 bert 30 1801-02-01\non east\n", at + "show x1");
        r.replies("5 caution d1 bank 1800-07-31\non east\n", at + "show d1");
        r.replies("6 option o1 bert 1810-01-01\non west\n", at + "show o1");
        r.replies("4 lease x1 ended\n", "at 1801-02-01 show x1");
        r.replies("5 caution d1 ended\n", "at 1800-07-31 show d1");
        r.replies("-1", "at 1800-01-31 show x1");
        r.replies("0 lot land 2000000\nat (0,0) (1000,0) (1000,1000) (0,1000)\ncrown 1/1\n", "at 1800-01-01 show land");
    }

    private static void traces() {
        Registry r = Registry.furnished();
        String at = "at 1800-02-01 ";
        // 1 to 6 settled: persons anna, bert, kid, firm, split, sale of west
        r.replies("5 1 4 6 7 8 ", at + "trace anna");
        r.replies("3 4 9 14 ", at + "trace bank");
        r.replies("7 5 6 7 9 10 11 13 ", at + "trace west");
        r.replies("1 5 ", at + "trace land");
        r.replies("0", at + "trace nothing");
        r.replies("2 5 6 ", "at 1800-01-31 trace west");
        r.enter("on 1800-02-02 sell west from anna to anna for 5");
        r.replies("7 5 6 7 9 10 11 13 ", "at 1800-02-02 trace west");
        // by their DAYS, and as they hold
        r.enter("on 1800-01-31 sell west from anna 1/9 to bert for 5");
        r.replies("6 1 4 6 16 7 8 ", at + "trace anna");
        r.enter("correct #16 to on 1800-01-31 sell east from crown 1/9 to bert for 5");
        r.replies("5 1 4 6 7 8 ", at + "trace anna");
        r.replies("6 5 16 9 11 12 14 ", at + "trace east");
    }

    private static void daysOfQuestions() {
        Registry r = new Registry();
        r.enter("on 1700-01-11 person a born 1700-01-01");
        r.replies("1", "count persons");
        r.replies("2", "at 1700-01-11 count persons");
        r.house.clock(10);
        r.replies("2", "count persons");
        r.enter("on 1700-01-11 person b born 1700-01-01");
        r.replies("3", "count persons");
        r.replies("2", "known 1700-01-10 count persons");
        r.replies("3", "known 1700-01-11 count persons");
        r.replies("3", "known 2299-12-31 count persons");
        r.replies("1", "at 1700-01-10 known 2299-12-31 count persons");
        Registry.due("the view at hand is another", r.house.count(11), 1);
    }

    private static void longTexts() {
        Registry r = new Registry();
        r.done("on 1700-01-01 split land by (0,10)(1000,10) into abcdefgh, hgfedcba");
        StringBuilder due = new StringBuilder("0 lot abcdefgh 1980000\nat (0,10) (1000,10) (1000,1000) (0,1000)\ncrown 1/1\n");
        for (int i = 10; i < 50; i++) {
            r.enter("on 1700-01-01 serve serve1" + i + " light of hgfedcba over abcdefgh at (500,500)");
            due.append("serve serve1" + i + " light over\n");
        }
        for (int i = 10; i < 50; i++) {
            r.enter("on 1700-01-01 caution cautio" + i + " on abcdefgh by crown");
            due.append("caution cautio" + i + " crown\n");
        }
        r.replies(due.toString().substring(0, 2002), "show abcdefgh");
        Registry.due("bytes in all", r.house.count(2), due.length() - 2);
        Registry.due("byte 1999", r.house.octet(1999), due.charAt(2001));
        Registry.missing("byte 2000", () -> r.house.octet(2000));
        Registry.missing("the last byte", () -> r.house.octet(r.house.count(2) - 1));
        Registry.missing("byte of the greatest int", () -> r.house.octet(Integer.MAX_VALUE));
        Registry.missing("byte of the least int", () -> r.house.octet(Integer.MIN_VALUE));
    }
}
