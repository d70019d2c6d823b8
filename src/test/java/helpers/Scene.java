/**
 * An object in the middle of its life: whatever a refused call could change is there and is not as it was at first.
 * What is told of it is all that can be seen, so that two objects that tell the same are the same.
 */
final class Scene {
    static final String TEXT = "farms 3 moments 4;bit 0 to 1;bit 1 to 2 must;bit 0 to 2;bit 2 to 3;bit 1 to 0;"
        + "tells:not[farm=1 and bit=3];hears:far<2 or mood=7;likes:moment*2-farm;"
        + "farm 1 wish 3 mood 4;farm 2 wish 1;snow 3 at 0;snow 5 at 1;";
    private static final String EARLIER = "farms 2 moments 3;bit 0 to 2;bit 2 to 1;now 2;farm 1 mood 8;";
    private static final String ON_TAPE = "farms 2 moments 3;bit 2 to 1 must;now 2;";

    private Scene() {
    }

    /**
     * Farms 0 to 2 think moments 2, 2, 3; farm 1 doubts twice; wire 1 is cut; farm 0 has mood 3; it is farm 1's turn;
     * six calls can be undone; trays 0 to 2 have deeds, moments, bits; image 0 was made, image 1 wasn't; the latest text
     * had fault 3 at 22; the tape has forty bytes, a fine text.
     */
    static PartyLine lived() {
        PartyLine x = withoutTape();
        Check.feed(x, ON_TAPE);
        return x;
    }

    static PartyLine withoutTape() {
        PartyLine x = Check.made(EARLIER);
        x.go(1);
        x.image(0);
        Check.line(x, "farms 9 moments 2;");
        Check.feed(x, TEXT);
        x.line(TEXT.length());
        x.tell(0, 0);
        x.tell(2, 2);
        x.cut(1);
        x.mood(0, 3);
        x.go(1);
        x.tell(2, 3);
        Check.lay(x, 0, 1, -1, 3, 1001, 2005, 900);
        Check.lay(x, 1, 0, -1, 2, 3);
        Check.lay(x, 2, 3, 0, 1, 3);
        Check.line(x, "farms 2 moments 2;cut 1;");
        Check.due("calls that can be undone in the scene", x.count(8), 6);
        return x;
    }

    /** All that can be seen of an object; it is used up by that. */
    static String all(PartyLine x) {
        StringBuilder out = new StringBuilder();
        int bytes = x.count(9);
        out.append(bytes).append(' ').append(x.fault(0)).append(' ').append(x.fault(1)).append(' ').append(rest(x));
        out.append(" text ").append(x.line(bytes)).append(' ').append(x.fault(0)).append(' ').append(x.fault(1));
        return out.append(' ').append(Check.sight(x)).toString();
    }

    /** All but the tape and the latest fault: what a line() with a fault leaves. */
    static String rest(PartyLine x) {
        StringBuilder out = new StringBuilder();
        line(x, out);
        state(x, out);
        trays(x, out);
        while (x.undo(1) >= 0) {
            state(x, out);
        }
        places(x, out);
        for (int i = 0; i < 2; i++) {
            out.append(" image ").append(x.restore(i));
            line(x, out);
            state(x, out);
        }
        return out.toString();
    }

    private static void line(PartyLine x, StringBuilder out) {
        out.append(" line");
        for (int what : new int[] {0, 1, 2, 3, 10}) {
            out.append(' ').append(x.count(what));
        }
        int farms = x.count(0);
        int bits = x.count(2);
        for (int f = 0; f < farms; f++) {
            out.append(' ').append(x.farm(f, 3)).append(' ').append(x.likes(f, 0)).append(' ').append(x.likes(f, 1));
            out.append(' ').append(x.wire(f, 1));
        }
        for (int b = 0; b < bits; b++) {
            out.append(' ').append(x.bit(b, 0)).append(x.bit(b, 1)).append(x.bit(b, 2)).append(x.bit(b, 3));
        }
    }

    private static void state(PartyLine x, StringBuilder out) {
        out.append(" state");
        for (int what = 4; what <= 8; what++) {
            out.append(' ').append(x.count(what));
        }
        int farms = x.count(0);
        for (int f = 0; f < farms; f++) {
            out.append(' ').append(x.farm(f, 0)).append(x.farm(f, 1)).append(x.farm(f, 2)).append(x.farm(f, 4));
        }
    }

    private static void trays(PartyLine x, StringBuilder out) {
        out.append(" trays");
        for (int tray = 0; tray < 4; tray++) {
            out.append(' ').append(x.judge(tray, 0)).append(x.judge(tray, 1)).append(x.judge(tray, 2)).append(x.judge(tray, 3));
            out.append(' ').append(x.rows(tray, 0)).append(' ').append(x.tellers(tray)).append(' ').append(x.teller(tray, 1));
        }
    }

    /** How many places each tray has and of which sort: these can be seen by writing alone. */
    private static void places(PartyLine x, StringBuilder out) {
        out.append(" places");
        for (int tray = 0; tray < 4; tray++) {
            long first = x.write(tray, 0, 0x123456789abcdef0L);
            int n = 0;
            while (first != -6 && n < 41 && x.write(tray, n, 0) != -7) {
                n++;
            }
            out.append(' ').append(n).append(' ').append(first);
        }
    }
}
