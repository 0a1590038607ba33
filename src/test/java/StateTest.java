/** Promises 13 to 19: what the VIEW at hand tells by numbers. */
public final class StateTest {
    public static void main(String[] args) {
        newOne();
        counts();
        names();
        facts();
        owners();
        sums();
        Registry.finish("StateTest");
    }

    private static void at(Registry r, String date) {
        int day = Registry.day(date);
        if (r.house.count(3) < day) {
            r.house.clock(day);
        }
        r.house.view(day, r.house.count(3));
    }

    private static void newOne() {
        LandHouse house = new LandHouse();
        Registry.due("land", house.name(0, 0), Registry.packed("land"));
        Registry.due("crown", house.name(1, 0), Registry.packed("crown"));
        int[] land = {2000000, 4, 1, 0, 0, -1};
        int[] crown = {1, -1, 1, 1, -1, -1};
        for (int what = 0; what < 6; what++) {
            Registry.due("land " + what, house.thing(0, 0, what), land[what]);
            Registry.due("crown " + what, house.thing(1, 0, what), crown[what]);
        }
        Registry.due("owner", house.owner(0, 0, 0), 0);
        Registry.due("share", house.owner(0, 0, 1), 1);
        Registry.due("of", house.owner(0, 0, 2), 1);
    }

    private static void counts() {
        Registry r = Registry.furnished();
        r.tell("annul");
        at(r, "1800-02-01");
        int[] counts = {14, 5, 0, Registry.day("1800-02-01"), Registry.day("1800-02-01"), Registry.day("1800-02-01"), 14, -1, -1,
            -1, 2, 5, 2, 1, 1, 1, 1, 2, -1};
        for (int what = 0; what < counts.length; what++) {
            Registry.due("count " + what, r.house.count(what), counts[what]);
        }
        Registry.due("count -1", r.house.count(-1), -1);
        Registry.due("count greatest", r.house.count(Integer.MAX_VALUE), -1);
        Registry.due("count least", r.house.count(Integer.MIN_VALUE), -1);
        at(r, "1801-02-01");
        Registry.due("leases then", r.house.count(14), 0);
        Registry.due("cautions then", r.house.count(15), 0);
        Registry.due("options then", r.house.count(16), 1);
        r.house.view(Registry.day("1800-01-31"), r.house.count(3));
        Registry.due("done before", r.house.count(6), 6);
        Registry.due("sales before", r.house.count(17), 1);
    }

    private static void names() {
        Registry r = Registry.furnished();
        at(r, "1800-02-01");
        Registry.due("west", r.house.name(0, 0), Registry.packed("west"));
        Registry.due("east", r.house.name(0, 1), Registry.packed("east"));
        Registry.due("kid", r.house.name(1, 3), Registry.packed("kid"));
        Registry.due("c2", r.house.name(2, 1), Registry.packed("c2"));
        Registry.due("s1", r.house.name(3, 0), Registry.packed("s1"));
        Registry.due("x1", r.house.name(4, 0), Registry.packed("x1"));
        Registry.due("d1", r.house.name(5, 0), Registry.packed("d1"));
        Registry.due("o1", r.house.name(6, 0), Registry.packed("o1"));
        int[][] none = {{0, 2}, {0, -1}, {1, 5}, {2, 2}, {3, 1}, {4, 1}, {5, 1}, {6, 1}, {7, 0}, {-1, 0},
            {Integer.MAX_VALUE, 0}, {Integer.MIN_VALUE, 0}, {0, Integer.MAX_VALUE}, {0, Integer.MIN_VALUE}};
        for (int[] pair : none) {
            Registry.missing("name of " + pair[0] + "," + pair[1], () -> r.house.name(pair[0], pair[1]));
            Registry.missing("thing of " + pair[0] + "," + pair[1], () -> r.house.thing(pair[0], pair[1], 0));
            Registry.missing("thing of " + pair[0] + "," + pair[1] + ",9", () -> r.house.thing(pair[0], pair[1], 9));
        }
        // the numbers are of those that are there
        r.done("on 1800-02-02 death anna");
        at(r, "1800-02-02");
        Registry.due("bert is the first now", r.house.name(1, 1), Registry.packed("bert"));
    }

    private static void facts() {
        Registry r = Registry.furnished();
        at(r, "1800-02-01");
        int birth = Registry.day("1795-03-03");
        int first = Registry.day("1800-02-01");
        int[][] due = {{0, 0, 1000000, 4, 2, 2, 70, -1}, {0, 1, 1000000, 4, 1, 1, 0, -1},
            {1, 1, 0, Registry.day("1760-05-05"), 1, 1, -1}, {1, 3, 0, birth, 0, 1, -1}, {1, 4, 1, -1, 1, 1, -1},
            {2, 0, 500, 2, -1}, {2, 1, 20, 1, -1}, {3, 0, 1, 1, 1, 2, -1},
            {4, 0, 30, 1, first, Registry.day("1801-02-01"), -1}, {5, 0, first + 180, -1, -1},
            {6, 0, Registry.day("1810-01-01"), 1, -1}};
        for (int[] row : due) {
            for (int what = 0; what < row.length - 2; what++) {
                Registry.due("thing " + row[0] + "," + row[1] + "," + what, r.house.thing(row[0], row[1], what), row[what + 2]);
            }
            Registry.due("what -1", r.house.thing(row[0], row[1], -1), -1);
            Registry.due("what least", r.house.thing(row[0], row[1], Integer.MIN_VALUE), -1);
            Registry.due("what greatest", r.house.thing(row[0], row[1], Integer.MAX_VALUE), -1);
        }
        r.done("on 1800-02-02 death anna to bert");
        at(r, "1800-02-02");
        Registry.due("kid is not able any more", r.house.thing(1, 2, 3), 0);
        Registry.due("nor is the bank", r.house.thing(1, 3, 3), 0);
        Registry.due("which is of age still", r.house.thing(1, 3, 2), 1);
        r.house.clock(Registry.day("1820-01-01"));
        r.house.view(Registry.day("1813-03-02"), r.house.count(3));
        Registry.due("kid a day ahead of 18", r.house.thing(1, 2, 2), 0);
        r.house.view(Registry.day("1813-03-03"), r.house.count(3));
        Registry.due("kid at 18", r.house.thing(1, 2, 2), 1);
        Registry.due("and able", r.house.thing(1, 2, 3), 1);
    }

    private static void owners() {
        Registry r = Registry.furnished();
        at(r, "1800-02-01");
        int[][] due = {{0, 0, 1, 2, 3}, {0, 1, 3, 1, 3}, {1, 0, 0, 1, 1}};
        for (int[] row : due) {
            for (int what = 0; what < 3; what++) {
                Registry.due("owner " + row[0] + "," + row[1] + "," + what, r.house.owner(row[0], row[1], what), row[what + 2]);
            }
        }
        int[][] none = {{0, 2, 0}, {0, -1, 0}, {2, 0, 0}, {-1, 0, 0}, {0, 0, 3}, {0, 0, -1}, {1, 1, 1},
            {0, Integer.MAX_VALUE, 0}, {Integer.MIN_VALUE, 0, 0}, {0, 0, Integer.MIN_VALUE}};
        for (int[] t : none) {
            Registry.missing("owner " + t[0] + "," + t[1] + "," + t[2], () -> r.house.owner(t[0], t[1], t[2]));
        }
        r.done("on 1800-02-02 death bert");
        at(r, "1800-02-02");
        Registry.due("kid's number without bert", r.house.owner(0, 1, 0), 2);
    }

    /** Reckons the sum from the other calls. */
    private static long sumOf(Registry r, String[][] rest) {
        int[] facts = {5, 4, 2, 4, 4, 1, 2};
        long sum = 0;
        for (int sort = 0; sort < 7; sort++) {
            for (int i = 0; i < r.house.count(10 + sort); i++) {
                sum = sum * 1000003 ^ r.house.name(sort, i);
                for (int what = 0; what < facts[sort]; what++) {
                    sum = sum * 1000003 ^ r.house.thing(sort, i, what);
                }
                if (sort == 0) {
                    for (int k = 0; k < r.house.thing(0, i, 1); k++) {
                        sum = sum * 1000003 ^ r.house.corner(i, k, 0);
                        sum = sum * 1000003 ^ r.house.corner(i, k, 1);
                    }
                    for (int k = 0; k < 3 * r.house.thing(0, i, 2); k++) {
                        sum = sum * 1000003 ^ r.house.owner(i, k / 3, k % 3);
                    }
                }
                for (String name : i < rest[sort].length && !rest[sort][i].isEmpty() ? rest[sort][i].split(" ") : new String[0]) {
                    sum = sum * 1000003 ^ Registry.packed(name);
                }
            }
        }
        return sum;
    }

    private static void sums() {
        Registry r = new Registry();
        Registry.due("sum of a new one", r.house.sum(), 2809619651555307425L);
        Registry f = Registry.furnished();
        f.done("on 1800-02-01 serve s2 light of east over west at (0,0)");
        at(f, "1800-02-01");
        String[][] rest = {{"c1 c2", "c1"}, {}, {"west east bank", "west bert"}, {"west east", "east west"}, {"east bert"},
            {"east bank"}, {"west bert"}};
        Registry.due("sum of all sorts", f.house.sum(), sumOf(f, rest));
        long before = f.house.sum();
        f.done("on 1800-02-01 rank c2 before c1 on west");
        rest[0][0] = "c2 c1";
        Registry.due("sum by rank", f.house.sum(), sumOf(f, rest));
        Registry.due("it is another one", f.house.sum() != before, true);
        f.house.clock(Registry.day("1811-01-01"));
        f.house.view(Registry.day("1811-01-01"), Registry.day("1811-01-01"));
        rest[4] = new String[0];
        rest[5] = new String[0];
        rest[6] = new String[0];
        Registry.due("sum of what is there", f.house.sum(), sumOf(f, rest));
    }
}
