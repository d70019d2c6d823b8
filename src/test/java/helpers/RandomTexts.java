import java.util.Random;

/** Texts by chance: mostly fine ones, some with a fault. */
final class RandomTexts {
    private final Random random;
    private int farms;
    private int moments;

    RandomTexts(Random random) {
        this.random = random;
    }

    String text() {
        StringBuilder out = new StringBuilder();
        farms = 2 + random.nextInt(7);
        moments = 2 + random.nextInt(7);
        out.append("farms ").append(farms).append(" moments ").append(moments).append(';');
        int bits = random.nextInt(4) == 0 ? random.nextInt(14) : 4 + random.nextInt(9);
        int mustIn = 1 + random.nextInt(8);
        for (int i = 0; i < bits; i++) {
            out.append("bit ").append(moment()).append(" to ").append(moment());
            out.append(random.nextInt(mustIn + 1) == 0 ? " must;" : ";");
        }
        int others = random.nextInt(8);
        for (int i = 0; i < others; i++) {
            out.append(other()).append(';');
        }
        String text = out.toString();
        if (random.nextInt(12) == 0) {
            text = text.replace(" ", random.nextBoolean() ? "\n" : "  ");
        }
        while (random.nextInt(6) == 0) {
            text = spoiled(text);
        }
        return text.length() > 900 ? text.substring(0, 900) : text;
    }

    private int moment() {
        return below(moments);
    }

    /** A number in its bounds, but for one in a few hundred. */
    private int below(int bound) {
        return random.nextInt(300) == 0 ? bound : random.nextInt(bound);
    }

    private String other() {
        switch (random.nextInt(9)) {
            case 0: return "farm " + below(farms) + " wish " + moment() + " mood " + below(10);
            case 1: return "farm " + below(farms) + (random.nextBoolean() ? " mood " + below(10) : "");
            case 2: return "cut " + below(farms - 1);
            case 3: return "snow " + below(11) + " at " + below(farms - 1);
            case 4: return "now " + moment();
            case 5: return "tells: " + truth(0, "bit", "from", "to");
            case 6: return "hears :" + truth(0, "teller", "far", "teller");
            case 7: return "likes : " + sum(0, "moment", "moment", "farm");
            default: return "farm " + below(farms) + " wish " + moment();
        }
    }

    private String truth(int depth, String... names) {
        StringBuilder out = new StringBuilder(unit(depth, names));
        while (random.nextInt(3) == 0) {
            out.append(random.nextBoolean() ? " or " : " and ").append(unit(depth, names));
        }
        return out.toString();
    }

    private String unit(int depth, String... names) {
        int way = random.nextInt(depth > 5 ? 20 : 6);
        if (way == 0) {
            return "not " + unit(depth + 1, names);
        }
        if (way == 1) {
            return "[" + truth(depth + 1, names) + "]";
        }
        return sum(depth, names) + " " + "=<>".charAt(random.nextInt(3)) + " " + sum(depth, names);
    }

    private String sum(int depth, String... names) {
        StringBuilder out = new StringBuilder(atom(depth, names));
        while (random.nextInt(5) < 2) {
            out.append(' ').append("+-*".charAt(random.nextInt(3))).append(' ').append(atom(depth, names));
        }
        return out.toString();
    }

    private String atom(int depth, String... names) {
        switch (random.nextInt(depth > 5 ? 30 : 8)) {
            case 0: return "(" + sum(depth + 1, names) + ")";
            case 1: return "farm";
            case 2: return "mood";
            case 3: return "" + random.nextInt(1000);
            case 4: return "" + random.nextInt(10);
            default: return names[random.nextInt(names.length)];
        }
    }

    /** Something put in, taken out, or put in another one's place. */
    private String spoiled(String text) {
        String[] pieces = {";", ":", " ", "1", "12", "1000", "bit", "farm", "must", "not ", "[", "]", "(", ")", "=", "A", "\t", "or",
            "teller", "moment", "moments", "farms", "\u00e9", "not not not ", "((((((", "-", " and ", "7", "9", "0", "to"};
        int i = random.nextInt(text.length() + 1);
        int j = Math.min(text.length(), i + random.nextInt(4));
        switch (random.nextInt(4)) {
            case 0: return text.substring(0, i) + text.substring(j);
            case 1: return text.substring(0, i);
            default: return text.substring(0, i) + pieces[random.nextInt(pieces.length)] + text.substring(random.nextBoolean() ? i : j);
        }
    }
}
