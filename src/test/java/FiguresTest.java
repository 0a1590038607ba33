/** The plane: CUTS, JOINED FIGURES, and promises 16 and 18: corner and lots. */
public final class FiguresTest {
    private static final String DAY = "on 1800-01-01 ";

    public static void main(String[] args) {
        cutsOfTheLand();
        noCuts();
        cutsOfBentFigures();
        fortyCorners();
        joined();
        notJoined();
        pointsOfLots();
        pointsOfSlantingLots();
        near();
        Registry.finish("FiguresTest");
    }

    private static Registry looking(Registry r) {
        int day = Registry.day("1800-01-01");
        if (r.house.count(3) < day) {
            r.house.clock(day);
        }
        r.house.view(day, day);
        return r;
    }

    private static String corners(Registry r, int lot) {
        StringBuilder text = new StringBuilder();
        for (int k = 0; k < r.house.thing(0, lot, 1); k++) {
            text.append('(').append(r.house.corner(lot, k, 0)).append(',').append(r.house.corner(lot, k, 1)).append(')');
        }
        return text.toString();
    }

    private static void cut(String points, String left, String right) {
        Registry r = new Registry();
        r.done(DAY + "split land by " + points + " into a, b");
        looking(r);
        Registry.due("left of " + points, corners(r, 0), left);
        Registry.due("right of " + points, corners(r, 1), right);
        Registry.due("areas of " + points, r.house.thing(0, 0, 0) + r.house.thing(0, 1, 0), 2000000);
    }

    private static void cutsOfTheLand() {
        cut("(500,0)(500,1000)", "(0,0)(500,0)(500,1000)(0,1000)", "(500,0)(1000,0)(1000,1000)(500,1000)");
        cut("(500,1000)(500,0)", "(500,0)(1000,0)(1000,1000)(500,1000)", "(0,0)(500,0)(500,1000)(0,1000)");
        cut("(0,0)(1000,1000)", "(0,0)(1000,1000)(0,1000)", "(0,0)(1000,0)(1000,1000)");
        cut("(1000,0)(0,1000)", "(0,0)(1000,0)(0,1000)", "(1000,0)(1000,1000)(0,1000)");
        cut("(200,0)(300,400)(700,0)", "(0,0)(200,0)(300,400)(700,0)(1000,0)(1000,1000)(0,1000)",
            "(200,0)(700,0)(300,400)");
        cut("(700,0)(300,400)(200,0)", "(200,0)(700,0)(300,400)",
            "(0,0)(200,0)(300,400)(700,0)(1000,0)(1000,1000)(0,1000)");
        // where it goes straight on there is no CORNER
        cut("(500,0)(500,100)(500,200)(500,1000)", "(0,0)(500,0)(500,1000)(0,1000)",
            "(500,0)(1000,0)(1000,1000)(500,1000)");
        cut("(0,0)(500,1)(1000,0)", "(0,0)(500,1)(1000,0)(1000,1000)(0,1000)", "(0,0)(1000,0)(500,1)");
        cut("(1000,1000)(999,999)(999,1000)", "(0,0)(1000,0)(1000,1000)(999,999)(999,1000)(0,1000)",
            "(999,999)(1000,1000)(999,1000)");
    }

    private static void noCuts() {
        Registry r = new Registry();
        String[] wrong = {"(500,0)", "(500,0)(500,0)", "(500,0)(500,500)", "(500,500)(500,1000)", "(500,0)(1001,500)",
            "(0,1001)(500,0)", "(200,0)(700,0)", "(0,0)(1000,0)", "(500,0)(500,500)(500,0)", "(500,0)(300,0)(500,1000)",
            "(500,0)(500,500)(1000,500)(500,1000)", "(500,0)(500,600)(500,400)(500,1000)",
            "(500,0)(500,600)(700,500)(400,500)(500,1000)", "(500,0)(500,500)(600,500)(500,500)(500,1000)",
            "(500,0)(500,500)(500,500)(500,1000)", "(0,500)(500,500)(500,600)(300,500)(300,1000)",
            "(0,500)(500,500)(500,600)(300,400)(300,1000)", "(500,0)(999999,500)(500,1000)",
            "(500,1)(500,999)", "(0,500)(500,500)(600,600)(700,500)(0,500)", "(0,0)(500,500)(600,600)(400,400)(0,1000)"};
        for (String points : wrong) {
            r.fails(3, DAY + "split land by " + points + " into a, b");
        }
    }

    private static void cutsOfBentFigures() {
        Registry r = new Registry();
        // a is what is on the left of a step: an L
        r.done(DAY + "split land by (1000,500)(500,500)(500,0) into b, a");
        looking(r);
        Registry.due("b", corners(r, 0), "(500,0)(1000,0)(1000,500)(500,500)");
        Registry.due("a", corners(r, 1), "(0,0)(500,0)(500,500)(1000,500)(1000,1000)(0,1000)");
        r.fails(0, DAY + "split a by (500,500)(0,1000) into x, y");
        r.fails(0, DAY + "split a by (500,500)(0,0) into x, y");
        r.fails(0, DAY + "split a by (500,500)(0,500) into x, y");
        // these run outside, along the border, or through a corner
        r.fails(3, DAY + "split a by (500,0)(1000,500) into x, y");
        r.fails(3, DAY + "split a by (500,200)(700,500) into x, y");
        r.fails(3, DAY + "split a by (0,500)(1000,500) into x, y");
        r.fails(3, DAY + "split a by (500,0)(500,1000) into x, y");
        r.fails(3, DAY + "split a by (0,0)(1000,1000) into x, y");
        r.fails(3, DAY + "split a by (500,100)(500,500) into x, y");
        r.fails(3, DAY + "split a by (500,100)(200,100)(700,700)(300,0) into x, y");
        r.fails(0, DAY + "split a by (500,100)(200,100)(300,0) into x, y");
        r.fails(0, DAY + "split a by (500,100)(200,200)(650,700)(800,500) into x, y");
        // both ends on one edge, either way
        r.fails(0, DAY + "split a by (0,200)(100,300)(0,400) into x, y");
        r.fails(0, DAY + "split a by (0,400)(100,300)(0,200) into x, y");
    }

    private static void fortyCorners() {
        Registry r = new Registry();
        // teeth along the lower border of what is above: each CUT gives it some CORNERS more
        r.done(DAY + "split land by (0,500)(10,520)(20,510)(30,520)(40,510)(50,520)(60,510)(70,520)(80,510)(90,520)(100,510)"
            + "(1000,510) into a1, b1");
        Registry.due("corners 1", looking(r).house.thing(0, 0, 1), 14);
        r.done(DAY + "split a1 by (100,510)(110,530)(120,520)(130,530)(140,520)(150,530)(160,520)(170,530)(180,520)(190,530)"
            + "(200,520)(1000,520) into a2, b2");
        Registry.due("corners 2", looking(r).house.thing(0, 1, 1), 24);
        r.done(DAY + "split a2 by (200,520)(210,540)(220,530)(230,540)(240,530)(250,540)(260,530)(270,540)(280,530)(290,540)"
            + "(300,530)(1000,530) into a3, b3");
        Registry.due("corners 3", looking(r).house.thing(0, 2, 1), 34);
        String teeth = "(310,550)(320,540)(330,550)(340,540)(350,550)(360,540)";
        r.fails(3, DAY + "split a3 by (300,530)" + teeth + "(370,550)(1000,550) into a4, b4");
        r.fails(3, DAY + "split a3 by (1000,550)(370,550)(360,540)(350,550)(340,540)(330,550)(320,540)(310,550)(300,530)"
            + " into a4, b4");
        r.done(DAY + "split a3 by (300,530)" + teeth + "(1000,540) into a4, b4");
        Registry.due("corners 4", looking(r).house.thing(0, 3, 1), 40);
        Registry.due("corner 39", r.house.corner(3, 39, 0) + r.house.corner(3, 39, 1), 1000);
        Registry.missing("corner 40", () -> r.house.corner(3, 40, 0));
        r.fails(3, DAY + "split a4 by (0,600)(10,610)(0,620) into a5, b5");
        r.done(DAY + "split a4 by (0,600)(1000,600) into top, low");
        // what is JOINED must not have more than 40 either
        r.done(DAY + "split top by (0,700)(10,710)(20,700)(1000,700) into top2, mid");
        r.fails(3, DAY + "join low, mid into all");
        r.fails(3, DAY + "border low, mid by (0,650)(1000,650)");
        r.done(DAY + "split mid by (0,650)(1000,650) into mid2, mid3");
        r.done(DAY + "join low, mid3 into low2");
        r.replies("40", "at 1800-01-01 most corners over lots");
    }

    private static Registry fourStripes() {
        Registry r = new Registry();
        r.done(DAY + "split land by (0,250)(1000,250) into r1, s1");
        r.done(DAY + "split r1 by (0,500)(1000,500) into r2, s2");
        r.done(DAY + "split r2 by (0,750)(1000,750) into s4, s3");
        return r;
    }

    private static void joined() {
        Registry r = fourStripes();
        r.done(DAY + "join s1, s2 into x");
        looking(r);
        Registry.due("x", corners(r, 2), "(0,0)(1000,0)(1000,500)(0,500)");
        r.done(DAY + "split x by (300,500)(300,400)(600,400)(600,500) into y, notch");
        looking(r);
        // the notch is on the left of the way down, along and up: that is y
        Registry.due("y", corners(r, 2), "(300,400)(600,400)(600,500)(300,500)");
        r.done(DAY + "join s3, y into z");
        looking(r);
        Registry.due("z", corners(r, 2), "(300,400)(600,400)(600,500)(1000,500)(1000,750)(0,750)(0,500)(300,500)");
        r.done(DAY + "join z, notch into w");
        looking(r);
        Registry.due("w", corners(r, 1), "(0,0)(1000,0)(1000,750)(0,750)");
        // borders that meet on a part of an edge, with corners that are not the other's
        r.done(DAY + "split s4 by (200,750)(200,1000) into s5, s6");
        r.done(DAY + "join w, s6 into v");
        looking(r);
        Registry.due("v", corners(r, 1), "(0,0)(1000,0)(1000,1000)(200,1000)(200,750)(0,750)");
        Registry.due("area of all", r.house.thing(0, 0, 0) + r.house.thing(0, 1, 0), 2000000);
        r.done(DAY + "join v, s5 into all");
        looking(r);
        Registry.due("all", corners(r, 0), "(0,0)(1000,0)(1000,1000)(0,1000)");
    }

    private static void notJoined() {
        Registry r = fourStripes();
        r.fails(3, DAY + "join s1, s3 into x");
        r.fails(3, DAY + "join s1, s4 into x");
        // only a point in common
        r.done(DAY + "split s1 by (500,0)(500,250) into a, b");
        r.done(DAY + "split s2 by (500,250)(500,500) into c, d");
        r.fails(3, DAY + "join a, d into x");
        r.fails(3, DAY + "join b, c into x");
        r.fails(0, DAY + "join a, c into x");
        // one that has a hole, and one that closes it
        Registry s = new Registry();
        s.done(DAY + "split land by (0,500)(1000,500) into up, low");
        s.done(DAY + "split up by (400,500)(400,600)(600,600)(600,500) into u, pit");
        looking(s);
        Registry.due("u", corners(s, 1), "(0,500)(400,500)(400,600)(600,600)(600,500)(1000,500)(1000,1000)(0,1000)");
        s.fails(3, DAY + "join u, low into ring");
        s.fails(3, DAY + "border u, low by (0,200)(1000,200)");
        s.fails(0, DAY + "join u, pit into up2");
        s.fails(0, DAY + "join pit, low into low2");
        s.done(DAY + "join low, pit into low2");
        s.fails(0, DAY + "join low2, u into all");
        touching();
    }

    /** Two that have a stretch in common and, apart from it, a point: their border would touch itself there. */
    private static void touching() {
        Registry r = new Registry();
        r.done(DAY + "split land by (0,500)(1000,500) into up, low");
        r.done(DAY + "split up by (200,500)(300,600)(400,500) into u, pit");
        // through a corner that sticks in, level with both ends or not
        r.fails(3, DAY + "split u by (0,600)(1000,600) into x, y");
        r.fails(3, DAY + "split u by (1000,600)(0,600) into x, y");
        r.fails(3, DAY + "split u by (0,600)(500,600)(500,1000) into x, y");
        r.fails(3, DAY + "split u by (0,900)(600,300) into x, y");
        r.fails(0, DAY + "split u by (0,900)(300,600) into x, y");
        r.done(DAY + "split low by (400,500)(500,400)(600,500) into pit2, l");
        // u and l have the stretches from 0 to 200 and from 600 to 1000 in common, and the point (400,500)
        r.fails(3, DAY + "join u, l into x");
        r.done(DAY + "split u by (1000,1000)(600,500) into u1, u2");
        looking(r);
        r.replies("2", "at 1800-01-01 count lots where near l and {named u1 or named u2}");
        int joins = r.suppose(DAY + "join u1, l into x") + r.suppose(DAY + "join u2, l into x");
        // one of them has but a stretch in common with l, the other one the point, too
        Registry.due("one of both is joined", joins, 3);
    }

    private static void pointsOfLots() {
        Registry r = fourStripes();
        r.done(DAY + "split s1 by (500,0)(500,250) into a, b");
        looking(r);
        Registry.due("in", r.house.lots(1, 1, 0), 1);
        Registry.due("on none there", r.house.lots(1, 1, 1), 0);
        Registry.due("on a corner of three", r.house.lots(500, 250, 1), 3);
        Registry.due("in none there", r.house.lots(500, 250, 0), 0);
        Registry.due("on the rim", r.house.lots(0, 250, 1), 2);
        Registry.due("on a stretch", r.house.lots(500, 100, 1), 2);
        Registry.due("another how", r.house.lots(1, 1, 2), 0);
        Registry.due("how -1", r.house.lots(1, 1, -1), 0);
        Registry.due("outside", r.house.lots(1001, 5, 0) + r.house.lots(5, -1, 1), 0);
        Registry.due("far outside", r.house.lots(Integer.MIN_VALUE, Integer.MAX_VALUE, 0), 0);
        Registry.missing("corner of no lot", () -> r.house.corner(5, 0, 0));
        Registry.missing("corner of lot -1", () -> r.house.corner(-1, 0, 0));
        Registry.missing("corner 4", () -> r.house.corner(0, 4, 0));
        Registry.missing("corner -1", () -> r.house.corner(0, -1, 0));
        Registry.missing("another what", () -> r.house.corner(0, 0, 2));
        Registry.missing("what -1", () -> r.house.corner(0, 0, -1));
        Registry.due("s2 is the first that is there", corners(r, 0), "(0,250)(1000,250)(1000,500)(0,500)");
        // a way through corners and along edges
        r.replies("4", "at 1800-01-01 count lots where has (500,250) or has (500,500)");
        r.replies("0", "at 1800-01-01 count lots where has (999999,250) or has (0,999999)");
    }

    private static void pointsOfSlantingLots() {
        Registry r = new Registry();
        // a star's point: ways through corners, along slanting edges, and past them
        r.done(DAY + "split land by (0,300)(400,500)(0,700) into wedge, rest");
        r.done(DAY + "split rest by (200,1000)(500,700)(800,1000) into crest, body");
        looking(r);
        Registry.due("wedge", corners(r, 0), "(0,300)(400,500)(0,700)");
        Registry.due("crest", corners(r, 1), "(500,700)(800,1000)(200,1000)");
        int[][] points = {{399, 500, 1, 0}, {400, 500, 0, 2}, {401, 500, 1, 0}, {200, 400, 0, 2}, {200, 401, 1, 0},
            {200, 399, 1, 0}, {100, 650, 0, 2}, {100, 649, 1, 0}, {100, 651, 1, 0}, {500, 700, 0, 2}, {500, 701, 1, 0},
            {500, 699, 1, 0}, {600, 800, 0, 2}, {600, 799, 1, 0}, {600, 801, 1, 0}, {300, 900, 0, 2}, {300, 899, 1, 0},
            {800, 1000, 0, 2}, {0, 300, 0, 2}, {0, 500, 0, 1}, {1000, 700, 0, 1}, {999, 700, 1, 0}, {0, 200, 0, 1}};
        for (int[] p : points) {
            Registry.due("in at " + p[0] + "," + p[1], r.house.lots(p[0], p[1], 0), p[2]);
            Registry.due("on at " + p[0] + "," + p[1], r.house.lots(p[0], p[1], 1), p[3]);
        }
        String[] in = {"(399,500)", "(200,401)", "(1,500)", "(0,650)", "(200,400)", "(0,300)"};
        String[] out = {"(401,500)", "(200,399)", "(1,300)", "(1,700)", "(100,651)", "(999999,500)", "(500,999999)"};
        for (String point : in) {
            r.replies("1", "at 1800-01-01 count lots where named wedge and has " + point);
            r.fails(0, DAY + "serve s way of body over wedge at " + point);
        }
        for (String point : out) {
            r.replies("0", "at 1800-01-01 count lots where named wedge and has " + point);
            r.fails(3, DAY + "serve s way of body over wedge at " + point);
        }
        // CUTS of it: from a slanting edge to another one
        r.fails(0, DAY + "split wedge by (200,400)(200,600) into a, b");
        r.fails(0, DAY + "split wedge by (200,600)(100,500)(200,400) into a, b");
        r.fails(3, DAY + "split wedge by (200,401)(200,600) into a, b");
        r.fails(3, DAY + "split wedge by (200,400)(100,350) into a, b");
        r.fails(3, DAY + "split body by (200,400)(200,600) into a, b");
        r.fails(0, DAY + "split body by (200,400)(500,300)(200,0) into a, b");
        r.fails(0, DAY + "split body by (400,500)(500,700) into a, b");
    }

    private static void near() {
        Registry r = new Registry();
        r.done(DAY + "split land by (0,0)(1000,1000) into up, low");
        r.done(DAY + "split up by (500,500)(0,1000) into u2, u1");
        r.done(DAY + "split low by (300,300)(1000,0) into l2, l1");
        // along the diagonal u2 goes up to (500,500), and l1 up to (300,300)
        r.replies("3 u2 u1 l1 ", "at 1800-01-01 list lots where near l2");
        r.replies("2 u2 l2 ", "at 1800-01-01 list lots where near l1");
        r.replies("2 u2 l2 ", "at 1800-01-01 list lots where near u1");
        r.replies("3 u1 l2 l1 ", "at 1800-01-01 list lots where near u2");
        r.replies("0", "at 1800-01-01 list lots where near up or near land");
        // a point in common is no stretch, be it a corner of one on a stretch of the other
        Registry s = fourStripes();
        s.done(DAY + "split s1 by (500,0)(500,250) into a, b");
        s.done(DAY + "split s2 by (500,250)(500,500) into c, d");
        s.replies("2 b c ", "at 1800-01-01 list lots where near a");
        s.replies("2 c d ", "at 1800-01-01 list lots where near s3 and not named s4");
        Registry t = new Registry();
        t.done(DAY + "split land by (0,500)(1000,500) into top, bottom");
        t.done(DAY + "split top by (300,1000)(500,500) into half, west");
        t.done(DAY + "split half by (500,500)(700,1000) into tip, east");
        t.replies("2 west east ", "at 1800-01-01 list lots where near tip");
        t.replies("2 west east ", "at 1800-01-01 list lots where near bottom");
        t.replies("2 bottom tip ", "at 1800-01-01 list lots where near east");
        // a corner of one at the middle of a stretch of the other
        t.fails(3, DAY + "join tip, bottom into x");
        t.fails(3, DAY + "join west, east into x");
        t.done(DAY + "join east, bottom into y");
        t.done(DAY + "join west, y into z");
        looking(t);
        Registry.due("z", corners(t, 1), "(0,0)(1000,0)(1000,1000)(700,1000)(500,500)(300,1000)(0,1000)");
        t.fails(0, DAY + "join z, tip into all");
    }
}
