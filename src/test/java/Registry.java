import java.nio.charset.StandardCharsets;
import java.time.LocalDate;
import java.time.temporal.ChronoUnit;
import java.util.NoSuchElementException;
import java.util.function.LongSupplier;

/** A LandHouse to which texts can be told as strings, and what the tests count with. */
final class Registry {
    private static int checks = 0;
    private static int wrong = 0;

    final LandHouse house = new LandHouse();

    static void due(String what, long got, long want) {
        checks++;
        if (got != want) {
            wrong++;
            System.out.println(what + ": " + got + ", due is " + want);
        }
    }

    static void due(String what, boolean got, boolean want) {
        due(what, got ? 1 : 0, want ? 1 : 0);
    }

    static void due(String what, String got, String want) {
        checks++;
        if (!got.equals(want)) {
            wrong++;
            System.out.println(what + ":\n" + got + "\ndue is:\n" + want);
        }
    }

    static void missing(String what, LongSupplier call) {
        checks++;
        try {
            long got = call.getAsLong();
            wrong++;
            System.out.println(what + ": " + got + ", due is NoSuchElementException");
        } catch (NoSuchElementException due) {
            return;
        }
    }

    static void finish(String test) {
        System.out.println(test + ": " + checks + " checks, " + wrong + " wrong");
        System.exit(wrong == 0 ? 0 : 1);
    }

    static int day(String date) {
        return (int) ChronoUnit.DAYS.between(LocalDate.of(1700, 1, 1), LocalDate.parse(date));
    }

    static long packed(String name) {
        long word = 0;
        for (int i = 0; i < 8; i++) {
            word = word << 8 | (i < name.length() ? name.charAt(i) : 0);
        }
        return word;
    }

    /** Lays a text on the tape, behind what is there. */
    void tell(String text) {
        byte[] bytes = text.getBytes(StandardCharsets.ISO_8859_1);
        int before = house.count(1);
        for (int from = 0; from < bytes.length; from += 20) {
            int[] four = new int[5];
            for (int i = 0; i < 20; i++) {
                int b = from + i < bytes.length ? bytes[from + i] & 255 : 0;
                four[i / 4] = four[i / 4] << 8 | b;
            }
            house.feed(four[0], four[1], four[2], four[3], four[4]);
        }
        house.end(before + bytes.length);
    }

    int enter(String text) {
        tell(text);
        return house.enter();
    }

    int suppose(String text) {
        tell(text);
        return house.suppose();
    }

    int ask(String text) {
        tell(text);
        return house.ask();
    }

    /** Enters a DEED that is DONE by what is known today. */
    Registry done(String text) {
        due("supposed: " + text, suppose(text), 0);
        due("entered: " + text, enter(text), house.count(0));
        return this;
    }

    /** A DEED that would FAIL. */
    Registry fails(int why, String text) {
        due("supposed: " + text, suppose(text), why);
        return this;
    }

    /** A text with a FAULT, by one of the three calls that read: e enter, s suppose, a ask. */
    void faulty(char call, int kind, int place, String text) {
        int got = call == 'e' ? enter(text) : call == 's' ? suppose(text) : ask(text);
        due("place of the fault in: " + text, -1 - got, place);
        due("kind of the fault in: " + text, house.fault(), kind);
        due("bytes left of: " + text, house.count(1), 0);
    }

    String text() {
        StringBuilder text = new StringBuilder();
        for (int i = 0; i < Math.min(house.count(2), 2000); i++) {
            text.append((char) house.octet(i));
        }
        return text.toString();
    }

    /** The ANSWER, and the TEXT behind it if there is one. */
    String reply(String question) {
        int read = ask(question);
        due("asked: " + question, read, 0);
        due("fault of: " + question, house.fault(), 0);
        return house.answer() + (house.count(2) == 0 ? "" : " " + text());
    }

    void replies(String want, String question) {
        due(question, reply(question), want);
    }

    /** A place with some people: west is anna's, east is of crown; kid is no adult. */
    static Registry settled() {
        Registry r = new Registry();
        r.done("on 1800-01-01 person anna born 1760-05-05");
        r.done("on 1800-01-01 person bert born 1770-01-01");
        r.done("on 1800-01-01 person kid born 1795-03-03");
        r.done("on 1800-01-01 firm bank by anna");
        r.done("on 1800-01-02 split land by (500,0) (500,1000) into west, east");
        r.done("on 1800-01-03 sell west from crown to anna for 100");
        return r;
    }

    /** The same place with one right of each sort, two CHARGES, and a GUARDIAN of kid, who has a share in west. */
    static Registry furnished() {
        Registry r = settled();
        r.done("on 1800-02-01 sell west from anna 1/3 to kid for 70");
        r.done("on 1800-02-01 guard kid by anna");
        r.done("on 1800-02-01 charge c1 on west, east to bank for 500");
        r.done("on 1800-02-01 charge c2 on west to bert for 20");
        r.done("on 1800-02-01 serve s1 water of west over east at (600,600) (700,700)");
        r.done("on 1800-02-01 lease x1 on east to bert until 1801-02-01 for 30");
        r.done("on 1800-02-01 option o1 on west to bert until 1810-01-01");
        r.done("on 1800-02-01 caution d1 on east by bank");
        return r;
    }
}
