import java.lang.management.ManagementFactory;

/** What is asked makes no objects, and 512 calls of all kinds on one object make few: all share one room. */
public final class RoomTest {
    private static final com.sun.management.ThreadMXBean ROOM =
            (com.sun.management.ThreadMXBean) ManagementFactory.getThreadMXBean();
    private static int wrong = 0;
    private static long sum = 0;

    private static long taken() {
        return ROOM.getThreadAllocatedBytes(Thread.currentThread().getId());
    }

    private static void need(String what, long bytes, long most) {
        if (bytes > most) {
            wrong++;
            System.out.println(what + " took " + bytes + " bytes of room, at most " + most + " are right");
        }
    }

    private static BallotBook told() {
        BallotBook b = new BallotBook();
        text(b, "papers 60;station 0 11;station 12 23;station 24 35;station 36 47;station 48 59;"
                + "voters 0 30;voters 1 30;voters 2 30;voters 3 30;voters 4 30");
        b.election();
        for (int i = 0; i < 6; i++) {
            text(b, "serve waiting*3-box if stock>2 and not[crowd<5 or left<3];serve runs+next%7+hour/2 if 1<2");
            b.rule();
        }
        b.force(5);
        return b;
    }

    private static void text(BallotBook b, String text) {
        for (int i = 0; i < text.length(); i += 20) {
            int[] w = new int[5];
            for (int k = 0; k < 20; k++) {
                w[k / 4] = w[k / 4] << 8 | (i + k < text.length() ? text.charAt(i + k) : 32);
            }
            b.feed(w[0], w[1], w[2], w[3], w[4]);
        }
    }

    private static void ask(BallotBook b, int i) {
        int s = i % 5;
        sum += b.slips(i % 8) + b.must() + b.free() + b.leaves(s) + b.ahead(s, 100, i % 4) + b.dry(s) + b.served();
        sum += b.more(s, 60, i % 2) + b.crowds(s, i % 2) + b.rests(s, (s + 1) % 5, 20, i % 3) + b.pence(9999, s);
        sum += b.ruled(i % 2) + b.look(60, i % 2) + b.crowded(10, 60, 50, i % 2) + b.count(i % 14) + b.balance(s);
        sum += b.station(s, i % 6) + b.paper(i % 60, i % 3) + b.row(s, 1, i % 5) + b.runs(s, 0, 0) + b.way(i, 0);
    }

    private static void act(BallotBook b, int i) {
        int s = i % 5;
        int t = (s + 1) % 5;
        sum += b.hour() + b.move(s, t, 1) + b.lend(s, t, 1) + b.spoil(i % 60) + b.find(i % 60) + b.send(s, t, 1);
        sum += b.tell(s, i / 5 % 3, 9) + b.undo() + b.note(i % 60, s, 3) + b.seed(i) + b.image(i % 4) + b.back(i % 4);
    }

    public static void main(String[] args) {
        // loading the classes takes room, too, which is not the object's
        act(told(), 0);
        long before = taken();
        BallotBook fresh = new BallotBook();
        sum += fresh.count(0);
        need("a new object", taken() - before, 12_000);
        BallotBook b = told();
        for (int i = 0; i < 60; i++) {
            act(b, i);
        }
        for (int i = 0; i < 15; i++) {
            b.tell(i % 5, i / 5, 4 + i);
        }
        b.note(-1, 0, 0);
        b.note(20, 1, 4);
        ask(b, 0);
        before = taken();
        for (int i = 0; i < 24; i++) {
            ask(b, i);
        }
        need("what is asked", taken() - before, 1_000);
        before = taken();
        BallotBook whole = told();
        for (int i = 0; i < 37; i++) {
            act(whole, i);
        }
        need("a whole run", taken() - before, 120_000);
        System.out.println("a whole run takes " + (taken() - before) + " bytes of room");
        System.out.println(wrong == 0 ? "the room is large enough" + (sum == 0 ? "" : " for all") : "too much room");
        if (wrong != 0) {
            System.exit(1);
        }
    }
}
