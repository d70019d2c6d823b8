import com.sun.management.ThreadMXBean;
import java.lang.management.ManagementFactory;
import java.util.Random;

/** All calls of a run live in one room: what the dearest runs make must be little. */
public final class RoomTest {
    // Far below 7.3 million elements of 4 bytes, so that a run may have many objects.
    private static final long MOST_BYTES = 1_000_000;
    private static final ThreadMXBean THREADS = (ThreadMXBean) ManagementFactory.getThreadMXBean();

    private RoomTest() {
    }

    private static long bytes() {
        return THREADS.getThreadAllocatedBytes(Thread.currentThread().getId());
    }

    public static void main(String[] args) {
        newObject();
        fullWays();
        texts();
        allQuestions();
        deepestLaw();
        Check.end();
    }

    private static void spent(String what, long since, long most) {
        long spent = bytes() - since;
        Check.holds(what + " made " + spent + " bytes, " + most + " at most", spent <= most);
    }

    private static void newObject() {
        PartyLine[] many = new PartyLine[100];
        many[0] = new PartyLine();
        long since = bytes();
        for (int i = 0; i < 100; i++) {
            many[i] = new PartyLine();
        }
        spent("a hundred new objects", since, 100 * 40_000);
    }

    private static String allMust() {
        StringBuilder text = new StringBuilder("farms 8 moments 8;");
        for (int i = 0; i < 12; i++) {
            text.append("bit ").append(i % 7).append(" to ").append(i < 7 ? i + 1 : 0).append(" must;");
        }
        return text.toString();
    }

    private static void fullWays() {
        PartyLine x = Check.made(allMust());
        long since = bytes();
        long sum = 0;
        for (int i = 0; i < 480; i++) {
            sum += x.fullWay(0, 7, i % 30);
        }
        spent("480 full ways", since, MOST_BYTES);
        Check.holds("they were looked for", sum != 0);
    }

    private static void texts() {
        PartyLine x = new PartyLine();
        String text = allMust() + "likes : " + "(1+mood)*".repeat(60) + "2;";
        int[] ints = Check.ints(text);
        long since = bytes();
        int lines = 0;
        for (int n = 0; n < 10; n++) {
            for (int i = 0; i < ints.length; i += 5) {
                x.feed(ints[i], ints[i + 1], ints[i + 2], ints[i + 3], ints[i + 4]);
            }
            lines += x.line(text.length()) + x.likes(0, 0);
            x.image(n % 2);
            x.restore(n % 2);
        }
        spent("ten long texts with images", since, MOST_BYTES);
        Check.due("lines and likings", lines, 160);
    }

    /** Each question many times, beside deeds, behind the first time that may make rows for later ones. */
    private static void allQuestions() {
        PartyLine x = Check.made(allMust() + "tells : not [farm = bit and mood < 5];hears : far < 4;likes : moment * mood;");
        x.numbers(0, 1, 12);
        x.numbers(1, 1, 12);
        for (int i = 0; i < 12; i++) {
            x.write(0, i, -1);
        }
        ask(x, new Random(1));
        Random random = new Random(2);
        long since = bytes();
        for (int n = 0; n < 16; n++) {
            ask(x, random);
        }
        spent("all questions sixteen times", since, 100_000);
    }

    private static void ask(PartyLine x, Random random) {
        int f = random.nextInt(8);
        int g = (f + 1 + random.nextInt(7)) % 8;
        int m = random.nextInt(8);
        x.go(9);
        x.winter(random.nextInt(), 40);
        x.judge(1, 2);
        x.perform(1);
        x.ear();
        x.needs(f, g);
        x.listeners();
        x.reach(m);
        x.way(f, m, 0);
        x.ways(f, m, 15);
        x.full(f, m);
        x.ends();
        x.power(f);
        x.best(f, m);
        x.ally(f, m);
        x.joinBy(f, g, 0);
        x.rows(0, m);
        x.sureBit(0, m, 3);
        x.tellers(1);
        x.teller(1, 3);
        x.better();
        x.fairest();
        x.snow(f, g, 1);
        x.left(f, 50);
        x.lists(2, f, m);
        x.undo(1);
    }

    /** The longest laws that a text can hold are worked off whole. */
    private static void deepestLaw() {
        String head = "farms 2 moments 2;likes:";
        String law = "1" + "+1".repeat((899 - head.length()) / 2 - 1);
        Check.due("a long sum", Check.made(head + law + ";").likes(0, 0), (law.length() + 1) / 2);
        String deep = "1=0 or 1=1 and not 1+2*3=1+2*3 or 1=0 or 1=1 and [1=0 or 1=1 and not 2=2 or 1=0 or 1=1 and [1=0 or 1=1 and not 1+2*"
            + "(1+2*(2+2*3))=1+2*3]]";
        PartyLine x = Check.made("farms 2 moments 2;bit 0 to 1;tells:" + deep + ";");
        Check.due("a deep law", x.bit(0, 3), 3);
    }
}
