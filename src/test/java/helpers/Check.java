import java.nio.charset.StandardCharsets;

/** What the project's tests share: answers compared, texts fed, and an end that tells whether all was as due. */
final class Check {
    private static int wrong;
    private static int checked;
    private static String heading = "";

    private Check() {
    }

    /** What the answers from now on are of. */
    static void under(String newHeading) {
        heading = newHeading;
    }

    static void due(String call, long got, long want) {
        checked++;
        if (got != want) {
            wrong++;
            System.out.println(heading + call + " answered " + got + ", due is " + want);
        }
    }

    static void holds(String what, boolean fine) {
        due(what, fine ? 1 : 0, 1);
    }

    static void end() {
        System.out.println(wrong == 0 ? checked + " answers are as due" : wrong + " of " + checked + " answers are not as due");
        if (wrong != 0) {
            System.exit(1);
        }
    }

    /** The five ints of each call of feed() that bring a text, filled up with blanks. */
    static int[] ints(String text) {
        byte[] bytes = text.getBytes(StandardCharsets.ISO_8859_1);
        int[] answer = new int[(bytes.length + 19) / 20 * 5];
        for (int i = 0; i < answer.length * 4; i++) {
            int next = i < bytes.length ? bytes[i] & 255 : 32;
            answer[i / 4] = answer[i / 4] << 8 | next;
        }
        return answer;
    }

    static void feed(PartyLine x, String text) {
        int[] ints = ints(text);
        for (int i = 0; i < ints.length; i += 5) {
            x.feed(ints[i], ints[i + 1], ints[i + 2], ints[i + 3], ints[i + 4]);
        }
    }

    /** Feeds a text and reads it: what line() answers. */
    static int line(PartyLine x, String text) {
        feed(x, text);
        return x.line(text.length());
    }

    /** A new object with a text that must be fine. */
    static PartyLine made(String text) {
        PartyLine x = new PartyLine();
        int answer = line(x, text);
        holds("the text is fine: " + text + " (" + answer + ", place " + x.fault(1) + ")", answer > 0);
        return x;
    }

    /** Makes a tray with these numbers. */
    static void lay(PartyLine x, int tray, int sort, long... numbers) {
        due("numbers(" + tray + ", " + sort + ", " + numbers.length + ")", x.numbers(tray, sort, numbers.length), 0);
        for (int i = 0; i < numbers.length; i++) {
            due("write(" + tray + ", " + i + ", " + numbers[i] + ")", x.write(tray, i, numbers[i]), numbers[i]);
        }
    }

    /** All that questions without side effects tell of the state, as one text. */
    static String sight(PartyLine x) {
        StringBuilder out = new StringBuilder();
        for (int what = 0; what <= 10; what++) {
            out.append(x.count(what)).append(' ');
        }
        for (int f = 0; f < x.count(0); f++) {
            for (int what = 0; what <= 5; what++) {
                out.append(x.farm(f, what)).append(' ');
            }
            for (int m = 0; m < x.count(1); m++) {
                out.append(x.likes(f, m)).append(' ');
            }
        }
        for (int b = 0; b < x.count(2); b++) {
            for (int what = 0; what <= 3; what++) {
                out.append(x.bit(b, what)).append(' ');
            }
        }
        for (int k = 0; k < x.count(0) - 1; k++) {
            out.append(x.wire(k, 0)).append(' ').append(x.wire(k, 1)).append(' ');
        }
        return out.append(x.fault(0)).append(' ').append(x.fault(1)).toString();
    }
}
