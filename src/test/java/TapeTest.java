/** Promises 1 to 4: a new object, feed, end, clock. */
public final class TapeTest {
    public static void main(String[] args) {
        newObject();
        feedAndEnd();
        bytesComeFromTheHighestOn();
        clockGoesOn();
        Registry.finish("TapeTest");
    }

    private static void newObject() {
        LandHouse house = new LandHouse();
        for (int what = 0; what <= 6; what++) {
            Registry.due("new: count " + what, house.count(what), 0);
        }
        Registry.due("new: fault", house.fault(), 0);
        Registry.due("new: answer", house.answer(), 0);
        Registry.due("new: came", house.came(1), -1);
        Registry.due("NONE", LandHouse.NONE, -1);
        Registry.missing("new: octet", () -> house.octet(0));
        Registry.due("new: lots", house.count(10), 1);
        Registry.due("new: persons", house.count(11), 1);
        for (int what = 12; what <= 17; what++) {
            Registry.due("new: count " + what, house.count(what), 0);
        }
    }

    private static void feedAndEnd() {
        LandHouse house = new LandHouse();
        for (int i = 1; i <= 32; i++) {
            Registry.due("feed " + i, house.feed(i, i, i, i, i), true);
            Registry.due("bytes behind feed " + i, house.count(1), 20 * i);
        }
        Registry.due("feed behind 640", house.feed(1, 2, 3, 4, 5), false);
        Registry.due("bytes then", house.count(1), 640);
        Registry.due("end 641", house.end(641), false);
        Registry.due("end -1", house.end(-1), false);
        Registry.due("end least int", house.end(Integer.MIN_VALUE), false);
        Registry.due("end 640", house.end(640), true);
        Registry.due("end 621", house.end(621), true);
        Registry.due("feed behind 621", house.feed(1, 2, 3, 4, 5), false);
        Registry.due("bytes still", house.count(1), 621);
        Registry.due("end 620", house.end(620), true);
        Registry.due("feed behind 620", house.feed(1, 2, 3, 4, 5), true);
        Registry.due("end 0", house.end(0), true);
        Registry.due("bytes at last", house.count(1), 0);
        Registry.due("end 1 of 0", house.end(1), false);
    }

    private static void bytesComeFromTheHighestOn() {
        LandHouse house = new LandHouse();
        // "count lots" and then ten blanks
        house.feed(0x636f756e, 0x74206c6f, 0x74732020, 0x20202020, 0x20202020);
        Registry.due("ask", house.ask(), 0);
        Registry.due("answer", house.answer(), 1);
        // feeds go on where the tape ended
        house.feed(0x636f756e, 0x74206c6f, 0x7420ffff, 0, -1);
        house.end(8);
        house.feed(0x74732020, 0x0a202020, 0x20202020, 0x20202020, 0x20202020);
        Registry.due("ask of two feeds", house.ask(), 0);
        // a byte above 127 is no TOKEN
        house.feed(0xe36f756e, 0x74206c6f, 0x74732020, 0x20202020, 0x20202020);
        Registry.due("ask with byte 227", house.ask(), -1);
        Registry.due("its fault", house.fault(), 1);
    }

    private static void clockGoesOn() {
        LandHouse house = new LandHouse();
        Registry.due("clock -1", house.clock(-1), false);
        Registry.due("clock 0", house.clock(0), true);
        Registry.due("clock 7", house.clock(7), true);
        Registry.due("clock 6", house.clock(6), false);
        Registry.due("clock 7 again", house.clock(7), true);
        Registry.due("count 3", house.count(3), 7);
        Registry.due("clock 219145", house.clock(219145), false);
        Registry.due("clock greatest int", house.clock(Integer.MAX_VALUE), false);
        Registry.due("count 3 still", house.count(3), 7);
        Registry.due("clock 219144", house.clock(219144), true);
        Registry.due("count 3 at last", house.count(3), 219144);
        Registry.due("days of the view stay", house.count(4) + house.count(5), 0);
    }
}
