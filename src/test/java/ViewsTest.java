/** Promises 5, 8 and 9: ORDERS, DAYS, and the VIEW at hand. */
public final class ViewsTest {
    public static void main(String[] args) {
        daysOfViews();
        orders();
        laterKnowledge();
        sameDay();
        rememberedNames();
        Registry.finish("ViewsTest");
    }

    private static void daysOfViews() {
        Registry r = new Registry();
        r.done("on 1700-01-01 person a born 1700-01-01");
        r.done("on 1700-01-11 person b born 1700-01-01");
        Registry.due("at first", r.house.count(6), 1);
        Registry.due("day 9", r.house.view(9, 0), 1);
        Registry.due("day 10", r.house.view(10, 0), 2);
        Registry.due("last day", r.house.view(219144, 0), 2);
        Registry.due("a day that is none", r.house.view(219145, 0), -1);
        Registry.due("day -1", r.house.view(-1, 0), -1);
        Registry.due("known -1", r.house.view(9, -1), -1);
        Registry.due("known behind the clock's", r.house.view(9, 1), -1);
        Registry.due("it stays", r.house.count(4), 219144);
        Registry.due("it stays known", r.house.count(5), 0);
        r.house.clock(20);
        Registry.due("known by the clock", r.house.view(9, 20), 1);
        Registry.due("its day", r.house.count(4), 9);
        Registry.due("its known day", r.house.count(5), 20);
        Registry.due("known behind it", r.house.view(9, 21), -1);
        // the VIEW at hand is as ENTRIES are when it is looked at
        r.done("on 1700-01-05 person c born 1700-01-01");
        Registry.due("now", r.house.count(6), 2);
        Registry.due("persons now", r.house.count(11), 3);
        Registry.due("came 3", r.house.came(3), 0);
        Registry.due("came 2", r.house.came(2), 20);
        r.house.clock(21);
        r.done("on 1700-01-05 person d born 1700-01-01");
        Registry.due("not known", r.house.count(11), 3);
        Registry.due("came 4", r.house.came(4), 22);
        Registry.due("came 0", r.house.came(0), -1);
        Registry.due("came 5", r.house.came(5), -1);
        Registry.due("came least", r.house.came(Integer.MIN_VALUE), -1);
    }

    private static void orders() {
        Registry r = new Registry();
        r.enter("on 1700-01-01 person a born 1700-01-01");
        r.enter("annul #1");
        r.enter("annul #2");
        r.enter("annul #3");
        r.house.view(0, 0);
        Registry.due("a deed under three orders", r.house.came(1), 21);
        Registry.due("an order under two", r.house.came(2), 23);
        Registry.due("an order under one", r.house.came(3), 24);
        Registry.due("the latest order", r.house.came(4), 23);
        Registry.due("done", r.house.count(6), 0);
        r.enter("correct #1 to on 1700-01-01 person b born 1700-01-01");
        Registry.due("what is void is not corrected", r.house.came(1), 21);
        Registry.due("that order counts", r.house.came(5), 23);
        r.enter("annul #2");
        Registry.due("told anew", r.house.came(1), 0);
        Registry.due("its name", r.house.name(1, 1), Registry.packed("b"));
        r.enter("correct #1 to on 1700-01-01 person c born 1700-01-02");
        Registry.due("the latest one tells it", r.house.came(1), 8);
        r.enter("correct #1 to on 1700-01-02 person c born 1700-01-02");
        Registry.due("its day, too", r.house.came(1), 20);
        Registry.due("on that day", r.house.view(1, 0), 1);
        Registry.due("its new name", r.house.name(1, 1), Registry.packed("c"));
        r.enter("annul #8");
        Registry.due("the one ahead of it again", r.house.came(1), 8);
        Registry.due("an annulled correction", r.house.came(8), 24);
        r.enter("annul #7");
        Registry.due("the first correction again", r.house.name(1, 1), Registry.packed("b"));
        r.enter("annul #5");
        Registry.due("as it was told first", r.house.name(1, 1), Registry.packed("a"));
        // void comes ahead of a day that is behind
        r.enter("on 1750-01-01 person z born 1700-01-01");
        Registry.due("behind", r.house.came(12), 20);
        r.enter("annul #12");
        Registry.due("void", r.house.came(12), 21);
    }

    private static void laterKnowledge() {
        Registry r = new Registry();
        r.enter("on 1700-01-01 person a born 1700-01-01");
        r.house.clock(10);
        r.enter("annul #1");
        r.house.clock(20);
        r.enter("annul #2");
        r.house.clock(30);
        r.enter("correct #1 to on 1700-01-01 person b born 1700-01-01");
        int[] knows = {0, 9, 10, 19, 20, 29, 30};
        int[] came = {0, 0, 21, 21, 0, 0, 0};
        int[] orders = {22, 22, 23, 23, 24, 24, 24};
        for (int i = 0; i < knows.length; i++) {
            Registry.due("view known on " + knows[i], r.house.view(0, knows[i]), came[i] == 0 ? 1 : 0);
            Registry.due("deed as known on " + knows[i], r.house.came(1), came[i]);
            Registry.due("order as known on " + knows[i], r.house.came(2), orders[i]);
            Registry.due("correction as known on " + knows[i], r.house.came(4), knows[i] < 30 ? 22 : 23);
        }
        r.replies("1 a ", "known 1700-01-01 list persons where not named crown");
        r.replies("0", "known 1700-01-11 list persons where not named crown");
        r.replies("1 b ", "list persons where not named crown");
        r.replies("1 b ", "known 1900-01-01 list persons where not named crown");
        r.replies("1 a ", "at 1700-01-01 known 1700-01-30 list persons where not named crown");
        Registry.due("the view at hand stays", r.house.count(5), 30);
    }

    private static void sameDay() {
        Registry r = new Registry();
        // of one DAY the DEEDS go by their numbers, of two by their DAYS
        r.enter("on 1700-02-01 sell land from crown to a for 5");
        r.enter("on 1700-02-01 person a born 1700-01-01");
        r.enter("on 1700-01-31 person b born 1700-01-01");
        r.enter("on 1700-02-01 sell land from crown to b for 5");
        r.house.view(100, 0);
        Registry.due("ahead of its buyer", r.house.came(1), 1);
        Registry.due("behind its buyer", r.house.came(4), 0);
        // told anew it keeps its number: it is ahead of the others of its new DAY
        r.enter("correct #1 to on 1700-02-01 sell land from crown to b for 6");
        Registry.due("first now", r.house.came(1), 0);
        Registry.due("second now", r.house.came(4), 2);
        r.enter("correct #4 to on 1700-01-31 sell land from crown to b for 6");
        Registry.due("first again", r.house.came(4), 0);
        Registry.due("second again", r.house.came(1), 2);
        r.replies("2 3 4 ", "at 1700-03-01 trace b");
        // what is supposed comes behind all of its DAY, and ahead of the next one
        r.fails(2, "on 1700-01-31 sell land from crown to b for 5");
        r.fails(0, "on 1700-01-30 person c born 1700-01-01");
        r.fails(1, "on 1700-01-30 sell land from crown to b for 5");
        r.fails(2, "on 1700-01-31 sell land from b to crown for 5");
    }

    private static void rememberedNames() {
        Registry r = new Registry();
        // a DEED that FAILS takes no NAME
        r.enter("on 1700-01-01 person a born 1700-01-02");
        r.enter("on 1700-01-01 split land by (0,0)(1000,0) into a, b");
        r.enter("on 1700-01-01 person a born 1700-01-01");
        Registry.due("too young", r.house.came(1), 8);
        Registry.due("no cut", r.house.came(2), 3);
        Registry.due("done", r.house.came(3), 0);
        Registry.due("done in all", r.house.count(6), 1);
    }
}
