/** Promises 5, 7, 8, 9 and 12 to 17, as far as they hang on what DEEDS do: each ACT, and why it FAILS. */
public final class DeedsTest {
    public static void main(String[] args) {
        persons();
        firms();
        guards();
        deaths();
        closings();
        sales();
        splits();
        joins();
        joinsEitherWay();
        borders();
        charges();
        paymentsAndAssignments();
        ranks();
        frees();
        auctions();
        serves();
        leases();
        cautionsAndOptions();
        takes();
        ends();
        Registry.finish("DeedsTest");
    }

    private static void persons() {
        Registry r = new Registry();
        r.fails(1, "on 1800-01-01 person crown born 1700-01-01");
        r.fails(1, "on 1800-01-01 person land born 1700-01-01");
        r.fails(8, "on 1800-01-01 person a born 1800-01-02");
        r.done("on 1800-01-01 person a born 1800-01-01");
        r.fails(1, "on 1800-01-01 person a born 1700-01-01");
        r.done("on 1800-01-02 death a");
        // a NAME is taken for good, also if what it stands for is not there any more
        r.fails(1, "on 1800-01-03 person a born 1700-01-01");
        for (int i = 2; i < 40; i++) {
            r.done("on 1800-02-01 person p" + i + " born 1700-01-01");
        }
        r.fails(7, "on 1800-02-01 person q born 1700-01-01");
        r.fails(7, "on 1800-02-01 firm q by p2");
        r.fails(8, "on 1800-02-01 person q born 1800-02-02");
        r.fails(1, "on 1800-02-01 person p2 born 1800-02-02");
    }

    private static void firms() {
        Registry r = Registry.settled();
        r.fails(1, "on 1800-02-01 firm f by nobody");
        r.fails(1, "on 1800-02-01 firm f by bank");
        r.fails(1, "on 1800-02-01 firm f by crown");
        r.fails(1, "on 1800-02-01 firm f by west");
        r.fails(1, "on 1800-02-01 firm f by f");
        r.fails(1, "on 1800-02-01 firm bank by anna");
        r.fails(2, "on 1800-02-01 firm f by kid");
        // one with a GUARDIAN is ABLE, but not OF AGE
        r.done("on 1800-02-01 guard kid by anna");
        r.fails(2, "on 1800-02-01 firm f by kid");
        r.fails(2, "on 1813-03-02 firm f by kid");
        r.done("on 1813-03-03 firm f by kid");
        // a FIRM is not ABLE when its DIRECTOR is not there
        r.done("on 1814-01-01 sell west from anna 1/2 to f for 1");
        r.fails(0, "on 1814-01-02 sell west from f to bert for 1");
        r.done("on 1814-01-02 death kid");
        r.fails(2, "on 1814-01-02 sell west from f to bert for 1");
        r.fails(2, "on 1814-01-02 charge c on west to crown for 1");
        r.done("on 1814-01-03 death anna");
        r.replies("1 firm bank anna\n", "at 1820-01-01 show bank");
    }

    private static void guards() {
        Registry r = Registry.settled();
        r.fails(1, "on 1800-02-01 guard bank by anna");
        r.fails(1, "on 1800-02-01 guard kid by bank");
        r.fails(1, "on 1800-02-01 guard kid by crown");
        r.fails(9, "on 1800-02-01 guard bert by anna");
        r.fails(9, "on 1800-02-01 guard bert by kid");
        r.fails(2, "on 1800-02-01 guard kid by kid");
        r.done("on 1800-02-01 sell west from anna 1/2 to kid for 7");
        r.fails(2, "on 1800-02-02 sell west from kid to anna for 7");
        r.done("on 1800-02-02 guard kid by anna");
        r.fails(0, "on 1800-02-02 sell west from kid to anna for 7");
        r.done("on 1800-02-03 guard kid by bert");
        r.done("on 1800-02-04 death anna");
        r.fails(0, "on 1800-02-04 sell west from kid to crown for 7");
        r.done("on 1800-02-05 death bert");
        r.fails(2, "on 1800-02-05 sell west from kid to crown for 7");
        r.fails(0, "on 1813-03-03 sell west from kid to crown for 7");
    }

    private static void deaths() {
        Registry r = Registry.settled();
        r.fails(1, "on 1800-02-01 death bank");
        r.fails(1, "on 1800-02-01 death crown");
        r.fails(1, "on 1800-02-01 death anna to west");
        r.fails(6, "on 1800-02-01 death anna to anna");
        r.fails(6, "on 1800-02-01 death anna to bert, bert");
        r.fails(6, "on 1800-02-01 death anna to bert 1/2, kid 1/3");
        r.fails(6, "on 1800-02-01 death anna to bert 1/2, kid 2/3");
        r.fails(6, "on 1800-02-01 death anna to bert 3/2");
        r.fails(0, "on 1800-02-01 death anna to bert 1/6, kid 1/3, bank 3/6");
        r.done("on 1800-02-01 sell east from crown to anna 1/2, bert 1/2 for 5");
        r.done("on 1800-02-01 charge c on west to anna for 50");
        r.done("on 1800-02-01 lease x on east to anna until 1900-01-01 for 5");
        r.done("on 1800-02-01 lease y on west to bert until 1900-01-01 for 5");
        r.done("on 1800-02-01 option o on west to anna until 1900-01-01");
        r.done("on 1800-02-01 caution d on west by anna");
        r.done("on 1800-02-02 death anna to kid 2/3, bert 1/3");
        r.replies("0 lot west 1000000\nat (0,0) (500,0) (500,1000) (0,1000)\nkid 2/3\nbert 1/3\n"
            + "charge c 50\nlease y bert 1900-01-01\n", "at 1800-02-02 show west");
        r.replies("0 lot east 1000000\nat (500,0) (1000,0) (1000,1000) (500,1000)\nbert 2/3\nkid 1/3\n",
            "at 1800-02-02 show east");
        r.replies("2 charge c kid 50\non west 1\n", "at 1800-02-02 show c");
        r.replies("1 person anna ended\n", "at 1800-02-02 show anna");
        r.replies("4 lease x ended\n", "at 1800-02-02 show x");
        r.replies("5 caution d ended\n", "at 1800-02-02 show d");
        r.replies("6 option o ended\n", "at 1800-02-02 show o");
        r.fails(1, "on 1800-02-02 death anna");
        // without PARTS all goes to crown
        r.done("on 1800-02-03 death kid");
        r.replies("1 firm crown\nwest 2/3\neast 1/3\ncharge c 50\n", "at 1800-02-03 show crown");
        deathsWithFineShares();
    }

    private static void deathsWithFineShares() {
        Registry r = Registry.settled();
        r.done("on 1800-02-01 sell west from anna to bert 1/997, kid 996/997 for 1");
        r.done("on 1800-02-01 person p born 1750-01-01");
        // 1/997 * 1/1000 is as fine as may be, 1/997 * 1/999 * 1/2 not
        r.fails(0, "on 1800-02-02 death bert to anna 1/1000, p 999/1000");
        r.done("on 1800-02-02 sell west from bert to anna 1/1000, p 999/1000 for 1");
        r.fails(0, "on 1800-02-03 death anna to kid");
        r.fails(6, "on 1800-02-03 death anna to bert 1/2, bank 1/2");
        // more than 8 OWNERS is told behind that
        String[] more = {"q1", "q2", "q3", "q4", "q5", "q6"};
        for (String name : more) {
            r.done("on 1800-02-03 person " + name + " born 1750-01-01");
        }
        r.done("on 1800-02-03 sell east from crown to q1, q2, q3 for 1");
        r.fails(0, "on 1800-02-04 death q1 to q2, q4, q5, q6, bert, bank");
        r.done("on 1800-02-04 sell east from q3 to anna, bert for 1");
        r.fails(0, "on 1800-02-05 death q1 to q2, q4, q5, q6, kid");
        r.fails(7, "on 1800-02-05 death q1 to q3, q4, q5, q6, kid, bank");
        r.fails(6, "on 1800-02-05 death anna to q3 1/2, q4 1/10, q5 1/10, q6 1/10, kid 1/10, bank 1/10");
    }

    private static void closings() {
        Registry r = Registry.settled();
        r.fails(1, "on 1800-02-01 close anna");
        r.fails(1, "on 1800-02-01 close crown");
        r.fails(1, "on 1800-02-01 close nobody");
        r.done("on 1800-02-01 firm f by anna");
        r.done("on 1800-02-01 sell west from anna 1/2 to bank for 5");
        r.fails(5, "on 1800-02-01 close bank");
        r.done("on 1800-02-01 sell west from anna to bank for 5");
        r.fails(5, "on 1800-02-01 close bank");
        r.done("on 1800-02-02 sell west from bank to anna for 5");
        r.done("on 1800-02-02 charge c on west to bank for 5");
        r.fails(5, "on 1800-02-02 close bank");
        r.done("on 1800-02-03 pay c for 5");
        r.done("on 1800-02-03 lease x on west to bank until 1800-03-01 for 5");
        r.fails(5, "on 1800-02-28 close bank");
        r.fails(0, "on 1800-03-01 close bank");
        r.done("on 1800-02-03 end x");
        r.done("on 1800-02-03 option o on west to bank until 1800-03-01");
        r.fails(5, "on 1800-02-28 close bank");
        r.done("on 1800-03-01 caution d on west by bank");
        r.fails(4, "on 1800-03-01 charge c2 on west to anna for 5");
        r.done("on 1800-03-01 close bank");
        r.replies("1 firm bank ended\n", "at 1800-03-01 show bank");
        r.replies("5 caution d ended\n", "at 1800-03-01 show d");
        r.fails(0, "on 1800-03-01 charge c2 on west to anna for 5");
        r.fails(1, "on 1800-03-01 firm bank by anna");
        r.fails(0, "on 1800-03-01 close f");
    }

    private static void sales() {
        Registry r = Registry.settled();
        r.fails(1, "on 1800-02-01 sell anna from anna to bert for 5");
        r.fails(1, "on 1800-02-01 sell land from crown to bert for 5");
        r.fails(1, "on 1800-02-01 sell west from nobody to bert for 5");
        r.fails(1, "on 1800-02-01 sell west from anna to east for 5");
        r.fails(2, "on 1800-02-01 sell west from bert to anna for 5");
        r.fails(2, "on 1800-02-01 sell west from kid to anna for 5");
        r.fails(6, "on 1800-02-01 sell west from anna 3/2 to bert for 5");
        r.fails(6, "on 1800-02-01 sell west from anna to anna for 5");
        r.fails(6, "on 1800-02-01 sell west from anna to bert, bert for 5");
        r.fails(6, "on 1800-02-01 sell west from anna to bert 1/2 for 5");
        r.fails(6, "on 1800-02-01 sell west from anna to bert 999/1000, kid 2/1000 for 5");
        r.done("on 1800-02-01 sell west from anna 2/4 to bert 1/3, kid 2/3 for 0");
        r.replies("0 lot west 1000000\nat (0,0) (500,0) (500,1000) (0,1000)\nanna 1/2\nbert 1/6\nkid 1/3\n",
            "at 1800-02-01 show west");
        r.replies("0", "at 1800-02-01 sum price over lots");
        r.fails(6, "on 1800-02-02 sell west from anna 501/1000 to bert for 5");
        // one with nothing left is none; one that comes again comes last
        r.done("on 1800-02-02 sell west from anna to bert for 9");
        r.replies("2", "at 1800-02-02 sum owners over lots where named west");
        r.done("on 1800-02-03 sell west from bert 1/3 to anna for 9");
        r.replies("0 lot west 1000000\nat (0,0) (500,0) (500,1000) (0,1000)\nbert 1/3\nkid 1/3\nanna 1/3\n",
            "at 1800-02-03 show west");
        r.replies("9", "at 1800-02-03 sum price over lots");
        r.house.clock(Registry.day("1800-02-03"));
        r.house.view(Registry.day("1800-02-03"), r.house.count(3));
        Registry.due("sales", r.house.count(17), 4);
        // a CAUTION bars all but the one who has it
        r.done("on 1800-02-04 caution d on west by anna");
        r.fails(0, "on 1800-02-04 sell west from anna to bert for 5");
        r.fails(4, "on 1800-02-04 sell west from bert to anna for 5");
        r.fails(6, "on 1800-02-04 sell west from bert 1/2 to anna for 5");
        r.done("on 1800-02-04 caution e on west by bert");
        r.fails(4, "on 1800-02-04 sell west from anna to bert for 5");
        salesOfFineShares();
        salesAreFull();
    }

    private static void salesOfFineShares() {
        Registry r = Registry.settled();
        r.done("on 1800-02-01 sell west from anna to bert 1/1000, bank 999/1000 for 5");
        r.done("on 1800-02-02 sell west from bert to crown 1/1000, anna 999/1000 for 5");
        r.replies("1 firm crown\nwest 1/1000000\neast 1/1\n", "at 1800-02-02 show crown");
        r.fails(6, "on 1800-02-03 sell west from crown to bert 1/2, anna 1/2 for 5");
        r.fails(6, "on 1800-02-03 sell west from anna to bert 1/7, kid 6/7 for 5");
        r.fails(0, "on 1800-02-03 sell west from crown to anna for 5");
        r.done("on 1800-02-03 caution d on west by bank");
        // barred comes ahead of a share that is too fine
        r.fails(4, "on 1800-02-03 sell west from crown to bert 1/2, anna 1/2 for 5");
    }

    private static void salesAreFull() {
        Registry r = new Registry();
        r.done("on 1800-01-01 person anna born 1760-05-05");
        for (int i = 0; i < 30; i++) {
            r.done("on 1800-01-02 sell land from crown to anna for 5");
            r.done("on 1800-01-02 sell land from anna to crown for 5");
        }
        r.fails(7, "on 1800-01-02 sell land from crown to anna for 5");
        r.fails(6, "on 1800-01-02 sell land from crown to crown for 5");
        Registry s = new Registry();
        for (int i = 1; i <= 9; i++) {
            s.done("on 1800-01-01 person p" + i + " born 1760-05-05");
        }
        s.done("on 1800-01-02 sell land from crown to p1, p2, p3, p4, p5, p6 for 5");
        s.done("on 1800-01-02 sell land from p1 1/12 to p7, p8 for 5");
        s.fails(7, "on 1800-01-02 sell land from p1 1/24 to p9 for 5");
        s.fails(0, "on 1800-01-02 sell land from p1 to p9 for 5");
        s.fails(0, "on 1800-01-02 sell land from p1 1/24 to p8 for 5");
        s.fails(7, "on 1800-01-02 sell land from p1 to p9, crown for 5");
    }

    private static void splits() {
        Registry r = Registry.settled();
        r.fails(1, "on 1800-02-01 split nolot by (0,500) (500,500) into a, b");
        r.fails(1, "on 1800-02-01 split west by (0,500) (500,500) into a, a");
        r.fails(1, "on 1800-02-01 split west by (0,500) (500,500) into anna, b");
        r.fails(1, "on 1800-02-01 split west by (0,500) (500,500) into a, land");
        r.fails(3, "on 1800-02-01 split west by (0,500) (501,500) into a, b");
        r.done("on 1800-02-01 sell west from anna 1/2 to kid for 8");
        r.fails(2, "on 1800-02-02 split west by (0,500) (500,500) into a, b");
        r.done("on 1800-02-02 guard kid by bert");
        r.done("on 1800-02-02 caution d on west by anna");
        r.fails(4, "on 1800-02-02 split west by (0,500) (501,500) into a, b");
        r.done("on 1800-02-03 end d");
        r.done("on 1800-02-03 charge c1 on west to bank for 50");
        r.done("on 1800-02-03 charge c2 on east, west to bank for 60");
        r.done("on 1800-02-03 rank c2 before c1 on west");
        r.done("on 1800-02-03 lease x on west to bert until 1900-01-01 for 5");
        r.done("on 1800-02-03 option o on west to bert until 1900-01-01");
        r.done("on 1800-02-03 serve s1 way of west over east at (600,600)");
        r.done("on 1800-02-03 serve s2 way of east over west at (100,100)");
        r.done("on 1800-02-03 serve s3 way of east over west at (100,900) (200,900)");
        r.done("on 1800-02-03 serve s4 way of east over west at (250,500)");
        r.done("on 1800-02-04 split west by (0,500) (500,500) into up, down");
        r.replies("0 lot west ended\n", "at 1800-02-04 show west");
        r.replies("0 lot up 500000\nat (0,500) (500,500) (500,1000) (0,1000)\nanna 1/2\nkid 1/2\ncharge c2 60\n"
            + "charge c1 50\nserve s1 way of\nserve s3 way over\nserve s4 way over\nlease x bert 1900-01-01\n"
            + "option o bert 1900-01-01\n", "at 1800-02-04 show up");
        r.replies("0 lot down 500000\nat (0,0) (500,0) (500,500) (0,500)\nanna 1/2\nkid 1/2\ncharge c2 60\n"
            + "charge c1 50\nserve s1 way of\nserve s2 way over\nserve s4 way over\nlease x bert 1900-01-01\n"
            + "option o bert 1900-01-01\n", "at 1800-02-04 show down");
        r.replies("2 charge c2 bank 60\non east 1\non up 1\non down 1\n", "at 1800-02-04 show c2");
        r.replies("3 serve s1 way\nof up\nof down\nover east\n", "at 1800-02-04 show s1");
        r.replies("3 serve s4 way\nof east\nover up\nover down\n", "at 1800-02-04 show s4");
        r.replies("0", "at 1800-02-04 sum price over lots where named up or named down");
        splitsAreFull();
        rowsOfSplitsAreFull();
    }

    private static void splitsAreFull() {
        Registry r = new Registry();
        String old = "land";
        for (int i = 1; i <= 39; i++) {
            r.done("on 1800-01-01 split " + old + " by (0," + i + ") (1000," + i + ") into u" + i + ", d" + i);
            old = "u" + i;
        }
        r.fails(7, "on 1800-01-02 split u39 by (0,500) (1000,500) into a, b");
        r.fails(3, "on 1800-01-02 split u39 by (0,500) (1000,501) (1,1) into a, b");
        r.done("on 1800-01-02 join d1, d2 into j");
        r.fails(7, "on 1800-01-02 join j, d3 into k");
        r.fails(3, "on 1800-01-02 join j, d4 into k");
    }

    private static void rowsOfSplitsAreFull() {
        String[] rights = {"charge c on land to crown for 5", "lease c on land to crown until 1900-01-01 for 5",
            "option c on land to crown until 1900-01-01"};
        for (String right : rights) {
            Registry r = new Registry();
            r.done("on 1800-01-01 " + right);
            splitSeven(r, "land", 0);
            r.fails(7, "on 1800-01-02 split u7 by (0,800) (1000,800) into u8, d8");
        }
        Registry over = new Registry();
        over.done("on 1800-01-01 split land by (10,0) (10,1000) into a, u0");
        over.done("on 1800-01-01 serve s way of a over u0 at (10,50) (10,150) (10,250) (10,350) (10,450) (10,550)"
            + " (10,650) (10,750) (10,850)");
        splitSeven(over, "u0", 10);
        over.replies("8", "at 1800-01-02 sum lots over serves");
        over.fails(7, "on 1800-01-02 split u7 by (10,800) (1000,800) into u8, d8");
        over.fails(0, "on 1800-01-02 split u7 by (10,900) (1000,900) into u8, d8");
        Registry of = new Registry();
        of.done("on 1800-01-01 split land by (10,0) (10,1000) into a, u0");
        of.done("on 1800-01-01 serve s way of u0 over a at (0,1000)");
        splitSeven(of, "u0", 10);
        of.fails(7, "on 1800-01-02 split u7 by (10,800) (1000,800) into u8, d8");
    }

    /** Parts seven stripes off a LOT from below, that lies on the right of x. */
    private static void splitSeven(Registry r, String first, int x) {
        String old = first;
        for (int i = 1; i <= 7; i++) {
            int y = i * 100;
            r.done("on 1800-01-02 split " + old + " by (" + x + "," + y + ") (1000," + y + ") into u" + i + ", d" + i);
            old = "u" + i;
        }
    }

    private static void joins() {
        Registry r = Registry.settled();
        r.fails(1, "on 1800-02-01 join west, west into a");
        r.fails(1, "on 1800-02-01 join west, nolot into a");
        r.fails(1, "on 1800-02-01 join west, east into bank");
        r.fails(6, "on 1800-02-01 join west, east into a");
        r.done("on 1800-02-01 sell west from anna to bert 1/3, kid 2/3 for 1");
        r.done("on 1800-02-01 sell east from crown to kid 2/3, bert 1/3 for 1");
        r.fails(2, "on 1800-02-02 join west, east into a");
        r.fails(2, "on 1800-02-02 join east, west into a");
        r.done("on 1800-02-02 guard kid by anna");
        r.done("on 1800-02-02 sell east from bert 1/6 to kid for 1");
        r.done("on 1800-02-02 caution d on east by bank");
        r.fails(6, "on 1800-02-02 join west, east into a");
        r.done("on 1800-02-03 end d");
        r.done("on 1800-02-03 sell east from kid 1/6 to bert for 1");
        r.done("on 1800-02-03 caution e on east by bank");
        r.done("on 1800-02-03 charge c0 on west to bank for 5");
        r.fails(4, "on 1800-02-03 join west, east into a");
        r.fails(4, "on 1800-02-03 join east, west into a");
        r.done("on 1800-02-04 end e");
        r.fails(5, "on 1800-02-04 join west, east into a");
        r.done("on 1800-02-04 pay c0 for 5");
        r.done("on 1800-02-04 charge c1 on east, west to bank for 5");
        r.done("on 1800-02-04 charge c2 on west, east to bank for 6");
        r.done("on 1800-02-04 rank c2 before c1 on west");
        r.fails(5, "on 1800-02-04 join west, east into a");
        r.done("on 1800-02-04 rank c1 before c2 on west");
        r.done("on 1800-02-04 option o on west to bank until 1800-03-01");
        r.fails(5, "on 1800-02-04 join west, east into a");
        r.fails(0, "on 1800-03-01 join west, east into a");
        r.done("on 1800-02-04 end o");
        r.done("on 1800-02-04 lease x on west to bank until 1800-03-01 for 5");
        r.fails(5, "on 1800-02-04 join west, east into a");
        r.done("on 1800-02-04 end x");
        r.done("on 1800-02-05 serve s way of west over east at (600,600)");
        r.done("on 1800-02-05 join east, west into all");
        r.replies("0 lot all 2000000\nat (0,0) (1000,0) (1000,1000) (0,1000)\nkid 2/3\nbert 1/3\ncharge c1 5\ncharge c2 6\n",
            "at 1800-02-05 show all");
        r.replies("2 charge c2 bank 6\non all 2\n", "at 1800-02-05 show c2");
        r.replies("3 serve s ended\n", "at 1800-02-05 show s");
        r.replies("0 lot west ended\n", "at 1800-02-05 show west");
        r.replies("0", "at 1800-02-05 sum price over lots");
        joinsOfRows();
    }

    private static void joinsOfRows() {
        Registry r = new Registry();
        r.done("on 1800-01-01 lease x on land to crown until 1900-01-01 for 5");
        r.done("on 1800-01-01 option o on land to crown until 1900-01-01");
        r.done("on 1800-01-01 split land by (0,250) (1000,250) into bc, a");
        r.done("on 1800-01-01 split bc by (0,500) (1000,500) into c, b");
        r.done("on 1800-01-01 split c by (0,750) (1000,750) into d, c2");
        // LOTS by row: d, c2, b, a
        r.replies("4 lease x crown 5 1900-01-01\non d\non c2\non b\non a\n", "at 1800-01-01 show x");
        r.done("on 1800-01-01 serve s way of a over d at (500,800)");
        r.done("on 1800-01-01 serve t way of d over a at (500,100)");
        r.done("on 1800-01-02 join b, c2 into m");
        r.replies("6 option o crown 1900-01-01\non d\non m\non a\n", "at 1800-01-02 show o");
        r.replies("3 serve s way\nof a\nover d\n", "at 1800-01-02 show s");
        r.done("on 1800-01-03 join a, m into n");
        r.replies("4 lease x crown 5 1900-01-01\non d\non n\n", "at 1800-01-03 show x");
        r.replies("3 serve s way\nof n\nover d\n", "at 1800-01-03 show s");
        r.done("on 1800-01-03 split d by (0,900) (1000,900) into d1, d2");
        r.replies("3 serve t way\nof d1\nof d2\nover n\n", "at 1800-01-03 show t");
        // over what it is of it is not any more, but over the other one still
        r.done("on 1800-01-03 serve u way of d1 over n at (0,0)");
        r.done("on 1800-01-04 split n by (0,100) (1000,100) into n1, n2");
        r.replies("3 serve t way\nof d1\nof d2\nover n1\nover n2\n", "at 1800-01-04 show t");
        r.done("on 1800-01-05 join n1, d2 into e");
        r.replies("3 serve t way\nof d1\nof e\nover n2\n", "at 1800-01-05 show t");
        r.replies("3 serve s ended\n", "at 1800-01-05 show s");
    }

    /** Which one of both stands first in a row and which is told first are two things. */
    private static void joinsEitherWay() {
        for (String both : new String[] {"b, a", "a, b"}) {
            Registry r = new Registry();
            r.done("on 1800-01-01 lease x on land to crown until 1900-01-01 for 5");
            r.done("on 1800-01-01 charge c on land to crown for 5");
            r.done("on 1800-01-01 split land by (0,250) (1000,250) into rest, a");
            r.done("on 1800-01-01 split rest by (0,500) (1000,500) into c1, b");
            r.replies("2 charge c crown 5\non c1 1\non b 1\non a 1\n", "at 1800-01-01 show c");
            r.done("on 1800-01-02 join " + both + " into m");
            r.replies("2 charge c crown 5\non c1 1\non m 1\n", "at 1800-01-02 show c");
            r.replies("4 lease x crown 5 1900-01-01\non c1\non m\n", "at 1800-01-02 show x");
            r.done("on 1800-01-03 join m, c1 into land3");
            r.replies("4 lease x crown 5 1900-01-01\non land3\n", "at 1800-01-03 show x");
        }
    }

    private static void borders() {
        Registry r = Registry.settled();
        r.fails(1, "on 1800-02-01 border west, west by (250,0) (250,1000)");
        r.fails(1, "on 1800-02-01 border west, anna by (250,0) (250,1000)");
        r.fails(3, "on 1800-02-01 border west, east by (250,0) (250,900)");
        r.fails(3, "on 1800-02-01 border west, east by (0,0) (0,1000)");
        r.done("on 1800-02-01 serve s way of west over east at (600,600)");
        r.done("on 1800-02-01 serve t way of east over west at (300,300)");
        r.fails(5, "on 1800-02-01 border west, east by (250,0) (250,1000)");
        r.fails(5, "on 1800-02-01 border west, east by (700,0) (700,1000)");
        r.fails(5, "on 1800-02-01 border west, east by (550,1000) (550,0)");
        r.fails(0, "on 1800-02-01 border west, east by (300,0) (300,1000)");
        r.fails(0, "on 1800-02-01 border west, east by (600,0) (600,1000)");
        r.done("on 1800-02-02 border west, east by (400,0) (300,500) (400,1000)");
        r.replies("0 lot west 700000\nat (0,0) (400,0) (300,500) (400,1000) (0,1000)\nanna 1/1\nserve s way of\nserve t way over\n",
            "at 1800-02-02 show west");
        r.replies("100", "at 1800-02-02 sum price over lots where area = 7*100*1000");
        r.replies("1300000", "at 1800-02-02 sum area over lots where named east");
        r.done("on 1800-02-03 sell east from crown to kid for 1");
        r.fails(2, "on 1800-02-03 border west, east by (400,0) (400,1000)");
        r.fails(2, "on 1800-02-03 border east, west by (400,1000) (400,0)");
        r.done("on 1800-02-03 guard kid by bert");
        r.done("on 1800-02-03 caution d on east by kid");
        r.fails(4, "on 1800-02-03 border west, east by (400,0) (400,900)");
    }

    private static void charges() {
        Registry r = Registry.settled();
        r.fails(1, "on 1800-02-01 charge anna on west to bert for 5");
        r.fails(1, "on 1800-02-01 charge c on west, west to bert for 5");
        r.fails(1, "on 1800-02-01 charge c on west, land to bert for 5");
        r.fails(1, "on 1800-02-01 charge c on west to east for 5");
        r.fails(1, "on 1800-02-01 charge c on west to c for 5");
        r.fails(6, "on 1800-02-01 charge c on west to bert for 0");
        r.done("on 1800-02-01 sell west from anna 1/2 to kid for 1");
        r.done("on 1800-02-01 caution d on east by bert");
        r.fails(4, "on 1800-02-01 charge c on east to bert for 0");
        // all OWNERS are asked ahead of all CAUTIONS
        r.fails(2, "on 1800-02-01 charge c on east, west to bert for 5");
        r.done("on 1800-02-01 guard kid by anna");
        r.done("on 1800-02-01 end d");
        r.done("on 1800-02-01 charge c on east, west to bert for 5");
        r.replies("2 charge c bert 5\non east 1\non west 1\n", "at 1800-02-01 show c");
        for (int i = 2; i <= 8; i++) {
            r.done("on 1800-02-02 charge c" + i + " on west to bert for 5");
        }
        r.replies("2 charge c8 bert 5\non west 8\n", "at 1800-02-02 show c8");
        r.fails(7, "on 1800-02-02 charge e on east, west to bert for 5");
        r.fails(6, "on 1800-02-02 charge e on east, west to bert for 0");
        r.done("on 1800-02-03 free west from c3");
        r.replies("2 charge c3 ended\n", "at 1800-02-03 show c3");
        r.replies("2 charge c8 bert 5\non west 7\n", "at 1800-02-03 show c8");
        r.fails(0, "on 1800-02-03 charge e on east, west to bert for 5");
        Registry s = new Registry();
        for (int i = 1; i <= 40; i++) {
            s.done("on 1800-01-01 charge c" + i + " on land to crown for 5");
            s.done("on 1800-01-01 pay c" + i + " for 5");
        }
        s.fails(7, "on 1800-01-01 charge c on land to crown for 5");
        s.fails(6, "on 1800-01-01 charge c on land to crown for 0");
    }

    private static void paymentsAndAssignments() {
        Registry r = Registry.settled();
        r.done("on 1800-02-01 charge c on east, west to kid for 50");
        r.fails(1, "on 1800-02-01 pay west for 5");
        r.fails(6, "on 1800-02-01 pay c for 0");
        r.fails(6, "on 1800-02-01 pay c for 51");
        r.done("on 1800-02-02 pay c for 20");
        r.replies("30", "at 1800-02-02 sum debts over charges");
        r.fails(6, "on 1800-02-02 pay c for 31");
        r.fails(1, "on 1800-02-02 assign c to c");
        r.fails(2, "on 1800-02-02 assign c to anna");
        r.fails(2, "on 1800-02-02 assign c to kid");
        r.done("on 1800-02-02 guard kid by anna");
        r.fails(9, "on 1800-02-02 assign c to kid");
        r.done("on 1800-02-03 assign c to anna");
        r.replies("2 charge c anna 30\non east 1\non west 1\n", "at 1800-02-03 show c");
        r.done("on 1800-02-04 pay c for 30");
        r.replies("2 charge c ended\n", "at 1800-02-04 show c");
        r.replies("0", "at 1800-02-04 sum debts over lots");
        r.fails(1, "on 1800-02-04 pay c for 1");
        r.fails(1, "on 1800-02-04 charge c on west to anna for 1");
    }

    private static void ranks() {
        Registry r = Registry.settled();
        for (int i = 1; i <= 4; i++) {
            r.done("on 1800-02-01 charge c" + i + " on west to bert for " + i);
        }
        r.done("on 1800-02-01 charge e on east to bert for 9");
        r.fails(1, "on 1800-02-02 rank c1 before c9 on west");
        r.fails(9, "on 1800-02-02 rank c2 before c2 on west");
        r.fails(9, "on 1800-02-02 rank c1 before c2 on west");
        r.fails(9, "on 1800-02-02 rank c2 before e on west");
        r.fails(9, "on 1800-02-02 rank e before c2 on west");
        r.fails(9, "on 1800-02-02 rank c2 before c1 on east");
        r.done("on 1800-02-02 rank c4 before c2 on west");
        r.replies("0 lot west 1000000\nat (0,0) (500,0) (500,1000) (0,1000)\nanna 1/1\ncharge c1 1\ncharge c4 4\ncharge c2 2\n"
            + "charge c3 3\n", "at 1800-02-02 show west");
        r.fails(9, "on 1800-02-02 rank c4 before c2 on west");
        r.done("on 1800-02-03 rank c3 before c1 on west");
        r.replies("2 charge c1 bert 1\non west 2\n", "at 1800-02-03 show c1");
    }

    private static void frees() {
        Registry r = Registry.settled();
        r.done("on 1800-02-01 charge c on west, east to bert for 5");
        r.done("on 1800-02-01 charge d on west to bert for 5");
        r.fails(1, "on 1800-02-02 free c from west");
        r.fails(9, "on 1800-02-02 free east from d");
        r.done("on 1800-02-02 free west from c");
        r.fails(9, "on 1800-02-02 free west from c");
        r.replies("2 charge c bert 5\non east 1\n", "at 1800-02-02 show c");
        r.replies("2 charge d bert 5\non west 1\n", "at 1800-02-02 show d");
        r.done("on 1800-02-03 free east from c");
        r.replies("2 charge c ended\n", "at 1800-02-03 show c");
    }

    private static void auctions() {
        Registry r = Registry.settled();
        r.done("on 1800-02-01 sell west from anna 1/2 to kid for 1");
        r.done("on 1800-02-01 guard kid by anna");
        r.done("on 1800-02-01 lease x on east to bert until 1900-01-01 for 5");
        r.done("on 1800-02-02 charge c1 on west to bert for 10");
        r.done("on 1800-02-02 charge c2 on west, east to bank for 20");
        r.done("on 1800-02-02 lease y on west to bert until 1900-01-01 for 5");
        r.done("on 1800-02-02 option o on west to bert until 1900-01-01");
        r.done("on 1800-02-03 charge c3 on west, east to bert for 30");
        r.done("on 1800-02-03 charge c4 on west to bert for 40");
        r.done("on 1800-02-03 charge e on east to bert for 5");
        r.fails(1, "on 1800-02-04 auction west by anna to bert for 25");
        r.fails(9, "on 1800-02-04 auction west by e to bert for 25");
        r.done("on 1800-02-04 person babe born 1800-02-04");
        r.fails(2, "on 1800-02-04 auction west by c2 to babe for 0");
        r.fails(6, "on 1800-02-04 auction west by c2 to bert for 0");
        r.done("on 1800-02-04 caution d on west by bank");
        r.fails(4, "on 1800-02-04 auction west by c1 to bert for 0");
        r.done("on 1800-02-04 auction west by c2 to bert for 25");
        r.replies("0 lot west 1000000\nat (0,0) (500,0) (500,1000) (0,1000)\nbert 1/1\ncharge c1 10\n",
            "at 1800-02-04 show west");
        r.replies("25", "at 1800-02-04 sum price over lots");
        // c2 is paid, so it is off east, too; c3 has a part of the rest, c4 nothing
        r.replies("2 charge c2 ended\n", "at 1800-02-04 show c2");
        r.replies("2 charge c3 bert 25\non east 1\n", "at 1800-02-04 show c3");
        r.replies("2 charge c4 ended\n", "at 1800-02-04 show c4");
        r.replies("4 lease x bert 5 1900-01-01\non east\n", "at 1800-02-04 show x");
        r.replies("4 lease y ended\n", "at 1800-02-04 show y");
        r.replies("6 option o ended\n", "at 1800-02-04 show o");
        r.replies("5 caution d ended\n", "at 1800-02-04 show d");
        r.house.clock(Registry.day("1800-02-04"));
        r.house.view(r.house.count(3), r.house.count(3));
        Registry.due("an auction is no sale", r.house.count(17), 2);
        auctionsOfParts();
    }

    private static void auctionsOfParts() {
        Registry r = new Registry();
        r.done("on 1800-01-01 option o on land to crown until 1900-01-01");
        r.done("on 1800-01-01 lease x on land to crown until 1900-01-01 for 5");
        r.done("on 1800-01-01 charge c on land to crown for 10");
        r.done("on 1800-01-02 split land by (500,0) (500,1000) into a, b");
        r.done("on 1800-01-03 auction a by c to crown for 4");
        r.replies("2 charge c crown 6\non b 1\n", "at 1800-01-03 show c");
        // a LEASE that was made ahead of the CHARGE stays, an OPTION does not
        r.replies("4 lease x crown 5 1900-01-01\non a\non b\n", "at 1800-01-03 show x");
        r.replies("6 option o crown 1900-01-01\non b\n", "at 1800-01-03 show o");
    }

    private static void serves() {
        Registry r = Registry.settled();
        r.fails(1, "on 1800-02-01 serve anna way of west over east at (600,600)");
        r.fails(1, "on 1800-02-01 serve s way of west over anna at (600,600)");
        r.fails(9, "on 1800-02-01 serve s way of west over west at (100,600)");
        r.fails(3, "on 1800-02-01 serve s way of west over east at (499,600)");
        r.fails(3, "on 1800-02-01 serve s way of west over east at (600,600) (700,700) (600,600)");
        r.fails(3, "on 1800-02-01 serve s way of west over east at (999999,600)");
        r.done("on 1800-02-01 serve s water of west over east at (500,600) (1000,1000) (700,700)");
        r.replies("3 serve s water\nof west\nover east\n", "at 1800-02-01 show s");
        r.replies("3", "at 1800-02-01 sum points over serves");
        r.done("on 1800-02-02 sell west from anna to kid for 1");
        r.fails(2, "on 1800-02-02 serve t light of east over west at (600,600)");
        r.fails(0, "on 1800-02-02 serve t light of west over east at (600,600)");
        r.fails(1, "on 1800-02-02 waive west");
        r.fails(2, "on 1800-02-02 waive s");
        r.done("on 1800-02-02 guard kid by anna");
        r.done("on 1800-02-02 caution d on west by kid");
        r.fails(4, "on 1800-02-02 serve t light of east over west at (600,600)");
        r.done("on 1800-02-03 waive s");
        r.replies("3 serve s ended\n", "at 1800-02-03 show s");
        r.fails(1, "on 1800-02-03 waive s");
        for (int i = 2; i <= 40; i++) {
            r.done("on 1800-02-03 serve s" + i + " way of west over east at (600,600)");
        }
        r.fails(7, "on 1800-02-03 serve t way of west over east at (600,600)");
        r.fails(3, "on 1800-02-03 serve t way of west over east at (300,600)");
    }

    private static void leases() {
        Registry r = Registry.settled();
        r.fails(1, "on 1800-02-01 lease bank on west to bert until 1900-01-01 for 5");
        r.fails(8, "on 1800-02-01 lease x on west to kid until 1800-02-01 for 5");
        r.fails(2, "on 1800-02-01 lease x on west to kid until 1800-02-02 for 5");
        r.done("on 1800-02-01 caution d on west by anna");
        r.fails(4, "on 1800-02-01 lease x on west to bert until 1800-02-02 for 5");
        r.done("on 1800-02-01 end d");
        r.done("on 1800-02-01 lease x on west to bert until 1800-02-05 for 0");
        r.fails(5, "on 1800-02-04 lease y on west to bank until 1900-01-01 for 5");
        r.fails(0, "on 1800-02-05 lease y on west to bank until 1900-01-01 for 5");
        r.fails(0, "on 1800-02-04 lease y on east to bank until 1900-01-01 for 5");
        r.replies("4 lease x bert 0 1800-02-05\non west\n", "at 1800-02-04 show x");
        r.replies("4 lease x ended\n", "at 1800-02-05 show x");
        r.done("on 1800-02-06 sell west from anna to kid for 5");
        r.fails(2, "on 1800-02-06 lease y on west to bank until 1900-01-01 for 5");
        Registry s = new Registry();
        for (int i = 1; i <= 40; i++) {
            s.done("on 1800-01-01 lease x" + i + " on land to crown until 1900-01-01 for 5");
            s.done("on 1800-01-01 end x" + i);
        }
        s.fails(7, "on 1800-01-01 lease x on land to crown until 1900-01-01 for 5");
        s.fails(8, "on 1800-01-01 lease x on land to crown until 1800-01-01 for 5");
    }

    private static void cautionsAndOptions() {
        Registry r = Registry.settled();
        r.fails(1, "on 1800-02-01 caution d on anna by anna");
        r.done("on 1800-02-01 caution d on west by kid");
        r.replies("5 caution d kid 1800-07-31\non west\n", "at 1800-02-01 show d");
        r.fails(4, "on 1800-07-30 option o on west to kid until 1900-01-01");
        r.fails(0, "on 1800-07-31 option o on west to kid until 1900-01-01");
        r.replies("1", "at 1800-07-30 sum left over cautions");
        r.replies("5 caution d ended\n", "at 1800-07-31 show d");
        r.fails(8, "on 1800-02-01 option o on west to kid until 1800-02-01");
        r.fails(1, "on 1800-02-01 option o on west to west until 1900-02-01");
        r.done("on 1800-08-01 option o on west to kid until 1800-08-03");
        r.replies("6 option o kid 1800-08-03\non west\n", "at 1800-08-02 show o");
        r.replies("6 option o ended\n", "at 1800-08-03 show o");
        r.fails(1, "on 1800-08-03 option o on west to kid until 1900-08-03");
        r.done("on 1800-08-03 sell west from anna to kid for 5");
        r.fails(2, "on 1800-08-03 option p on west to anna until 1900-08-03");
        // a CAUTION may outlast the calendar
        r.done("on 2299-12-31 caution e on west by kid");
        r.replies("5 caution e kid 2300-06-29\non west\n", "at 2299-12-31 show e");
        Registry s = new Registry();
        for (int i = 1; i <= 40; i++) {
            s.done("on 1800-01-01 caution d" + i + " on land by crown");
        }
        s.fails(7, "on 1800-01-01 caution d on land by crown");
        Registry t = new Registry();
        for (int i = 1; i <= 30; i++) {
            t.done("on 1800-01-01 option o" + i + " on land to crown until 1900-01-01");
        }
        t.fails(7, "on 1800-01-01 option o on land to crown until 1900-01-01");
    }

    private static void takes() {
        Registry r = Registry.settled();
        r.done("on 1800-02-01 sell west from anna 1/2 to bank for 9");
        r.done("on 1800-02-01 option o on west to kid until 1900-01-01");
        r.fails(2, "on 1800-02-01 take o");
        r.done("on 1800-02-01 guard kid by anna");
        // a SALE ahead of the OPTION is none for it
        r.fails(9, "on 1800-02-01 take o");
        r.fails(1, "on 1800-02-01 take west");
        r.done("on 1800-02-02 sell west from anna 1/4 to bert 1/3, crown 2/3 for 9");
        r.fails(0, "on 1800-02-02 take o");
        r.fails(0, "on 1800-04-03 take o");
        r.fails(9, "on 1800-04-04 take o");
        r.done("on 1800-02-03 sell west from anna 1/8 to kid for 7");
        // its HOLDER is a buyer of the latest one, so that one does not count
        r.done("on 1800-02-04 take o");
        r.replies("0 lot west 1000000\nat (0,0) (500,0) (500,1000) (0,1000)\nanna 1/8\nbank 1/2\nkid 3/8\n"
            + "option o kid 1900-01-01\n",
            "at 1800-02-04 show west");
        r.replies("7", "at 1800-02-04 sum price over lots where named west");
        r.fails(9, "on 1800-02-04 take o");
        r.replies("6 option o kid 1900-01-01\non west\n", "at 1800-02-04 show o");
        r.done("on 1800-02-05 sell west from bank 1/4 to bert for 7");
        r.done("on 1800-02-06 sell west from bert 1/8 to anna for 7");
        // the latest one may be taken, and then the one ahead of it, of which bert has less by now
        r.fails(0, "on 1800-02-06 take o");
        r.done("on 1800-02-06 take o");
        r.fails(6, "on 1800-02-06 take o");
        r.done("on 1800-02-07 sell west from anna 1/8 to bert for 7");
        r.done("on 1800-02-07 take o");
        r.fails(6, "on 1800-02-07 take o");
        r.replies("0 lot west 1000000\nat (0,0) (500,0) (500,1000) (0,1000)\nbank 1/4\nkid 5/8\n"
            + "bert 1/8\noption o kid 1900-01-01\n", "at 1800-02-07 show west");
        r.house.clock(Registry.day("1800-02-07"));
        r.house.view(r.house.count(3), r.house.count(3));
        Registry.due("sales", r.house.count(17), 7);
        takesOfOtherLots();
        takesAreFull();
    }

    private static void takesOfOtherLots() {
        Registry r = Registry.settled();
        r.done("on 1800-02-01 option o on west to bank until 1900-01-01");
        r.done("on 1800-02-01 sell west from anna to bert for 9");
        r.done("on 1800-02-02 split west by (0,500) (500,500) into up, down");
        // the LOT that was sold is not there any more
        r.fails(9, "on 1800-02-02 take o");
        r.done("on 1800-02-03 sell down from bert 1/2 to anna for 9");
        r.done("on 1800-02-03 sell east from crown to bert for 9");
        r.done("on 1800-02-04 take o");
        r.replies("1 firm bank anna\ndown 1/2\n", "at 1800-02-04 show bank");
        r.done("on 1800-02-05 sell down from bank to anna for 9");
        // its HOLDER is the seller
        r.fails(9, "on 1800-02-05 take o");
    }

    private static void takesAreFull() {
        Registry s = new Registry();
        for (int i = 1; i <= 8; i++) {
            s.done("on 1800-01-01 person p" + i + " born 1760-05-05");
        }
        s.done("on 1800-01-01 option o on land to crown until 1900-01-01");
        s.done("on 1800-01-01 sell land from crown to p1, p2, p3, p4, p5 for 5");
        s.done("on 1800-01-01 sell land from p1 3/20 to p6, p7, p8 for 5");
        s.done("on 1800-01-01 sell land from p2 1/10 to p3 for 5");
        s.fails(7, "on 1800-01-01 take o");
        s.done("on 1800-01-02 sell land from p1 to p2 for 5");
        s.done("on 1800-01-02 take o");
        s.replies("1 firm crown\nland 1/20\n", "at 1800-01-02 show crown");
        s.done("on 1800-01-02 take o");
        s.replies("1 firm crown\nland 3/20\n", "at 1800-01-02 show crown");
        Registry t = Registry.settled();
        t.done("on 1800-02-01 guard kid by anna");
        t.done("on 1800-02-01 sell west from anna to kid 1/997, bert 996/997 for 5");
        t.done("on 1800-02-01 option o on west to kid until 1900-01-01");
        t.done("on 1800-02-02 sell west from bert 1/991 to anna for 5");
        t.fails(0, "on 1800-02-02 take o");
        t.done("on 1800-02-04 sell west from kid 1/999 to crown for 5");
        t.fails(6, "on 1800-02-04 take o");
    }

    private static void ends() {
        Registry r = Registry.settled();
        r.done("on 1800-02-01 option o on west to kid until 1900-01-01");
        r.done("on 1800-02-01 lease x on west to bert until 1900-01-01 for 5");
        r.done("on 1800-02-01 charge c on west to bert for 5");
        r.done("on 1800-02-01 caution d on west by bank");
        r.fails(1, "on 1800-02-01 end c");
        r.fails(1, "on 1800-02-01 end west");
        r.fails(1, "on 1800-02-01 end bert");
        r.fails(1, "on 1800-02-01 end nothing");
        r.fails(2, "on 1800-02-01 end o");
        r.fails(1, "on 1900-01-01 end o");
        r.fails(1, "on 1800-02-01 take x");
        r.done("on 1800-02-02 end x");
        r.done("on 1800-02-02 end d");
        r.replies("4 lease x ended\n", "at 1800-02-02 show x");
        r.replies("5 caution d ended\n", "at 1800-02-02 show d");
        r.replies("4 lease x bert 5 1900-01-01\non west\n", "at 1800-02-01 show x");
        r.fails(1, "on 1800-02-02 end x");
        r.done("on 1800-02-03 death anna");
        r.done("on 1800-02-03 guard kid by bert");
        r.done("on 1800-02-03 end o");
    }
}
