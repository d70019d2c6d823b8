import java.lang.reflect.InvocationTargetException;
import java.lang.reflect.Method;
import java.lang.reflect.Modifier;
import java.util.ArrayList;
import java.util.Arrays;
import java.util.Comparator;
import java.util.List;
import java.util.Random;

/** Runs of calls by chance, from told seeds, on the class and on the model: each answer must be the same. */
public final class RandomRunsTest {
    private static final int RUNS = 1500;
    // What an object answers behind its 512th call is free.
    private static final int MOST_CALLS = 512;
    private static final List<Method> CALLS = new ArrayList<>();

    private final Random random;
    private final PartyLine x = new PartyLine();
    private final Model model = new Model();
    private final List<String> told = new ArrayList<>();
    private final int run;
    private int calls;
    private boolean broken;

    private RandomRunsTest(int run) {
        this.run = run;
        random = new Random(run);
    }

    public static void main(String[] args) throws Exception {
        for (Method m : PartyLine.class.getDeclaredMethods()) {
            if (Modifier.isPublic(m.getModifiers()) && !m.getName().equals("feed")) {
                CALLS.add(m);
            }
        }
        CALLS.sort(Comparator.comparing(Method::getName));
        Check.due("public calls beside feed()", CALLS.size(), 47);
        int first = args.length > 0 ? Integer.parseInt(args[0]) : 0;
        int runs = args.length > 1 ? Integer.parseInt(args[1]) : RUNS;
        for (int run = first; run < first + runs; run++) {
            new RandomRunsTest(run).go();
        }
        Check.end();
    }

    private void go() throws Exception {
        int texts = 1 + random.nextInt(3);
        for (int t = 0; t < texts && !isOver(); t++) {
            if (t > 0 || random.nextInt(10) > 0) {
                for (int i = 0; i < 5 && newText() < 0; i++) {
                    told.add("(that had a fault)");
                }
            }
            for (int tray = 0; tray < 4; tray++) {
                layTray(tray, tray);
            }
            int more = 60 + random.nextInt(60);
            for (int i = 0; i < more && !isOver(); i++) {
                if (random.nextInt(60) == 0) {
                    feedText("bit 0 to 1;");
                }
                oneCall();
            }
        }
    }

    private boolean isOver() {
        return broken || calls >= MOST_CALLS;
    }

    private int newText() throws Exception {
        String text = new RandomTexts(random).text();
        feedText(text);
        same(PartyLine.class.getMethod("line", int.class), text.length());
        told.add("(that was: " + text + ")");
        same(PartyLine.class.getMethod("fault", int.class), 0);
        same(PartyLine.class.getMethod("fault", int.class), 1);
        return model.fault(1) == -1 ? 0 : -1;
    }

    private void feedText(String text) {
        int[] ints = Check.ints(text);
        for (int i = 0; i < ints.length && !isOver(); i += 5) {
            int[] five = Arrays.copyOfRange(ints, i, i + 5);
            compare("feed " + Arrays.toString(five), x.feed(five[0], five[1], five[2], five[3], five[4]), model.feed(five));
        }
    }

    private void oneCall() throws Exception {
        Method call = CALLS.get(random.nextInt(CALLS.size()));
        switch (call.getName()) {
            case "line":
                same(call, random.nextInt(6) == 0 ? small(40) : -1 - random.nextInt(3));
                break;
            case "numbers":
                layTray(small(4), random.nextInt(4));
                break;
            case "write":
                same(call, small(4), small(5), number());
                break;
            case "restore":
                same(call, random.nextInt(3) == 0 ? small(2) : 2);
                break;
            case "tell":
            case "joins":
            case "joinBy":
                stir();
                same(call, args(call.getName()));
                break;
            default:
                same(call, args(call.getName()));
                break;
        }
    }

    /** What each call takes: Farm, Moment, Bit, Wire, Tray, sOrt, wHat, Place, mooD, Seed, and numbers below a bound. */
    private Object[] args(String call) {
        switch (call) {
            case "farm": return of("FH");
            case "bit": return of("BH");
            case "wire": return of("WH");
            case "tell": return of("FB");
            case "cut": return of("W");
            case "mood": return of("FD");
            case "go": return of(random.nextInt(4) == 0 ? "N" : "P");
            case "undo": return of("P");
            case "judge": return of("TH");
            case "winter": return of("SU");
            case "heardBy": case "power": return of("F");
            case "needs": case "joins": return of("FF");
            case "joinBy": return of("FFP");
            case "reach": return of("M");
            case "fewest": case "full": return of("MM");
            case "way": case "fullWay": return of("MMP");
            case "ways": return of("MMR");
            case "likes": case "forces": case "best": case "ally": return of("FM");
            case "rows": return of("TM");
            case "sureBit": return of("TMP");
            case "tellers": case "perform": return of("T");
            case "teller": return of("TP");
            case "snow": return of("FFI");
            case "left": return of("FL");
            case "lists": return of("TMM");
            case "image": return of("I");
            case "fault": return of("I");
            case "count": return of("C");
            default: return new Object[0];
        }
    }

    private Object[] of(String sorts) {
        Object[] answer = new Object[sorts.length()];
        for (int i = 0; i < answer.length; i++) {
            answer[i] = one(sorts.charAt(i));
        }
        return answer;
    }

    private int one(char sort) {
        switch (sort) {
            case 'F': return random.nextInt(6) == 0 ? model.count(5) : small(model.count(0));
            case 'M': return small(model.count(1));
            case 'B': return small(Math.max(1, model.count(2)));
            case 'W': return small(model.count(0) - 1);
            case 'T': return small(4);
            case 'H': return small(6);
            case 'D': return small(10);
            case 'N': return small(100);
            case 'P': return random.nextInt(3) == 0 ? small(12) : small(4);
            case 'S': return random.nextInt();
            case 'U': return small(41);
            case 'R': return small(16);
            case 'L': return small(101);
            case 'C': return small(11);
            default: return small(2);
        }
    }

    /** Lets farms think unlike moments: bits told that can be told, in bad weather. */
    private void stir() throws Exception {
        int k = random.nextInt(model.count(0) - 1);
        if (random.nextInt(3) == 0 && model.wire(k, 0) == 0) {
            same(PartyLine.class.getMethod("cut", int.class), k);
        }
        for (int i = random.nextInt(4); i > 0; i--) {
            int f = random.nextInt(model.count(0));
            int can = model.farm(f, 5);
            if (can > 0) {
                int b = random.nextBoolean() ? Integer.numberOfTrailingZeros(can) : 31 - Integer.numberOfLeadingZeros(can);
                same(PartyLine.class.getMethod("tell", int.class, int.class), f, b);
            }
        }
    }

    /** A tray of deeds, of bits, of moments, or of anything. */
    private void layTray(int tray, int meant) throws Exception {
        Method numbers = PartyLine.class.getMethod("numbers", int.class, int.class, int.class);
        Method write = PartyLine.class.getMethod("write", int.class, int.class, long.class);
        int sort = random.nextInt(5) == 0 ? small(4) : 1 + random.nextInt(3);
        int size = random.nextInt(8) == 0 ? small(41) : random.nextInt(14);
        same(numbers, tray, sort, size);
        int hidden = 1 + random.nextInt(5);
        int moment = random.nextInt(model.count(1));
        for (int i = 0; i < Math.min(size, 40); i++) {
            moment = further(moment);
            long heard = random.nextInt(hidden) > 0 ? -1 : moment;
            long bit = random.nextInt(Math.max(1, model.count(2)));
            same(write, tray, i, meant == 0 ? deed() : meant == 1 ? heard : meant == 2 ? bit : number());
        }
    }

    /** The moment behind some bit from a moment, if there is one. */
    private int further(int moment) {
        int bits = model.count(2);
        int b = random.nextInt(bits + 1);
        for (int i = 0; i < bits; i++) {
            if (model.bit((b + i) % bits, 0) == moment) {
                return model.bit((b + i) % bits, 1);
            }
        }
        return moment;
    }

    private long number() {
        switch (random.nextInt(4)) {
            case 0: return random.nextLong();
            case 1: return random.nextInt(70000) - 35000;
            case 2: return deed();
            default: return random.nextInt(10) - 1;
        }
    }

    private long deed() {
        switch (random.nextInt(6)) {
            case 0: return random.nextInt(2300) - 2;
            case 1: return 1000 + random.nextInt(7);
            case 2: return 2000 + random.nextInt(60);
            case 3: return random.nextInt(model.count(0)) * 100 + random.nextInt(12);
            default: return -1;
        }
    }

    /** Mostly 0 to bound - 1, at times just outside, seldom far outside. */
    private int small(int bound) {
        int dice = random.nextInt(100);
        if (dice == 0) {
            return random.nextInt();
        }
        if (dice == 1) {
            return random.nextBoolean() ? Integer.MIN_VALUE : Integer.MAX_VALUE;
        }
        if (dice < 5) {
            return -1;
        }
        return dice < 7 ? bound : random.nextInt(bound);
    }

    private void same(Method call, Object... args) throws Exception {
        if (!isOver()) {
            Method other = Model.class.getDeclaredMethod(call.getName(), call.getParameterTypes());
            compare(call.getName() + " " + Arrays.toString(args), answer(call, x, args), answer(other, model, args));
        }
    }

    private static long answer(Method call, Object target, Object[] args) throws Exception {
        try {
            return ((Number) call.invoke(target, args)).longValue();
        } catch (InvocationTargetException e) {
            throw new IllegalStateException(call.getName() + Arrays.toString(args), e.getCause());
        }
    }

    private void compare(String call, long got, long want) {
        calls++;
        told.add(call + " -> " + want);
        Check.due("run " + run + ": " + call, got, want);
        if (got != want) {
            broken = true;
            told.forEach(row -> System.out.println("    " + row));
        }
    }
}
