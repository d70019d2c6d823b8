/** The boundary cases of promises 40 to 43: moments all would rather have, and snow. */
public final class WishEdgesTest extends Edges {
    private WishEdgesTest() {
    }

    public static void main(String[] args) throws Exception {
        runAll(WishEdgesTest.class);
    }

    static void noneLessSomeOneMore() {
        sentence("Promise 40", "MOMENTS that no FARM LIKES less than the one it thinks the tale is at, and some one more, as bits.");
        unchanged("better()", x -> x.better(), 8);
        due("all alike: none", fine("farms 2 moments 8;likes:7;", 2).better(), 0);
        due("all but its own", fine("farms 2 moments 8;likes:moment;", 2).better(), 254);
        due("none above the most", fine("farms 2 moments 8;likes:moment;now 7;", 3).better(), 0);
        due("the first, too", fine("farms 2 moments 8;likes:7-moment;now 7;", 3).better(), 127);
        due("the first alone", fine("farms 2 moments 8;likes:7-moment;now 1;", 3).better(), 1);
        due("one farm more, the other one alike", fine("farms 2 moments 3;likes:farm*moment;", 2).better(), 6);
        due("one farm more, the other one less by one", fine("farms 2 moments 3;likes:farm*moment*9-moment;", 2).better(), 0);
        due("one wish", fine("farms 2 moments 3;farm 0 wish 1;farm 1 wish 2;", 3).better(), 6);
        due("a wish that one has", fine("farms 2 moments 3;farm 0 wish 1;", 2).better(), 0);
        PartyLine x = fine("farms 2 moments 3;likes:moment;bit 0 to 1;bit 1 to 2;cut 0;", 5);
        x.tell(0, 0);
        due("each against its own moment", x.better(), 6);
        x.tell(0, 1);
        due("only where both are content", x.better(), 4);
        x.tell(1, 0);
        x.tell(1, 1);
        due("both are there", x.better(), 0);
        due("between the least and the next", fine("farms 2 moments 2;likes:moment-999*999-999-999-1;", 2).better(), 2);
        due("kept alike below", fine("farms 2 moments 2;likes:0-999*999-999*999-moment;now 1;", 3).better(), 0);
    }

    static void fairestToTheLeast() {
        sentence("Promise 41", "The MOMENT that the FARM which LIKES it least LIKES most, the first.");
        unchanged("fairest()", x -> x.fairest(), 3);
        due("all alike: the first", fine("farms 2 moments 8;likes:7;", 2).fairest(), 0);
        due("all alike, the least there is", fine("farms 2 moments 8;likes:0-999*999-999*999;", 2).fairest(), 0);
        due("all alike, the most there is", fine("farms 2 moments 8;likes:999*999+999*999;", 2).fairest(), 0);
        due("the last", fine("farms 2 moments 8;likes:moment;", 2).fairest(), 7);
        due("one above the least there is", fine("farms 2 moments 8;likes:moment*(moment-6)-999*999-999-999-1;", 2).fairest(), 7);
        due("in the middle of two", fine("farms 3 moments 3;likes:0-(moment-farm)*(moment-farm);", 2).fairest(), 1);
        due("two alike: the first", fine("farms 2 moments 4;likes:0-(moment-1-farm)*(moment-1-farm);", 2).fairest(), 1);
        due("not the sum: the least", fine("farms 2 moments 2;likes:moment*(farm*99-1);", 2).fairest(), 0);
        due("wishes apart: the first", fine("farms 2 moments 3;farm 0 wish 1;farm 1 wish 2;", 3).fairest(), 0);
        due("one wish of all", fine("farms 2 moments 3;farm 0 wish 2;farm 1 wish 2;", 3).fairest(), 2);
        PartyLine x = fine("farms 2 moments 3;likes:moment*mood;farm 0 mood 1;farm 1 mood 1;", 4);
        due("by moods", x.fairest(), 2);
        x.mood(1, 0);
        due("by moods as they are now", x.fairest(), 0);
    }

    private static void fraction(PartyLine x, int f, int g, long above, long below) {
        due("snow(" + f + ", " + g + ", 0)", x.snow(f, g, 0), above);
        due("snow(" + f + ", " + g + ", 1)", x.snow(f, g, 1), below);
    }

    static void aboveAndBelow() {
        sentence("Promise 42", "SNOW, what 0: the number above, 1: below.");
        unchanged("snow(0, 1, 0)", x -> x.snow(0, 1, 0), 7);
        unchanged("snow(0, 1, 1)", x -> x.snow(0, 1, 1), 10);
        unchanged("snow(1, 2, 0): cut already", x -> x.snow(1, 2, 0), 0);
        unchanged("snow(1, 2, 1): cut already", x -> x.snow(1, 2, 1), 1);
        for (int s = 0; s <= 10; s++) {
            PartyLine x = fine("farms 2 moments 2;snow " + s + " at 0;", 2);
            int shared = s == 10 ? 10 : s == 5 ? 5 : s == 0 ? 10 : s % 2 == 0 ? 2 : 1;
            fraction(x, 0, 1, (10 - s) / shared, 10 / shared);
        }
        String all = "farms 8 moments 2;snow N at 0;snow N at 1;snow N at 2;snow N at 3;snow N at 4;snow N at 5;snow N at 6;";
        fraction(fine(all.replace("N", "1"), 8), 0, 7, 4782969, 10000000);
        fraction(fine(all.replace("N", "9"), 8), 7, 0, 1, 10000000);
        fraction(fine(all.replace("N", "5"), 8), 0, 7, 1, 128);
        fraction(fine(all.replace("N", "2"), 8), 0, 7, 16384, 78125);
        fraction(fine(all.replace("N", "0"), 8), 0, 7, 1, 1);
        fraction(fine(all.replace("N", "10"), 8), 0, 7, 0, 1);
    }

    static void snowRefuses() {
        sentence("Promise 42", "-2: FARMS, both one, what.");
        refused("snow(0, 3, 0)", x -> x.snow(0, 3, 0), -2);
        refused("snow(3, 0, 0)", x -> x.snow(3, 0, 0), -2);
        for (int f = 0; f < 4; f++) {
            int g = f;
            refused("both " + g, x -> x.snow(g, g, 0), -2);
        }
        refused("snow(0, 1, 2)", x -> x.snow(0, 1, 2), -2);
        for (int wrong : WRONG) {
            refused("snow(" + wrong + ", 0, 0)", x -> x.snow(wrong, 0, 0), -2);
            refused("snow(0, " + wrong + ", 0)", x -> x.snow(0, wrong, 0), -2);
            refused("snow(0, 1, " + wrong + ")", x -> x.snow(0, 1, wrong), -2);
        }
        due("snow(2, 0, 1)", Scene.lived().snow(2, 0, 1), 1);
    }

    static void asLikelyAtLeast() {
        sentence("Promise 43", "How many others there are to each of which a FARM has no CUT WIRE behind SNOW as likely as m in 100 (0 to 100) at least.");
        unchanged("left(0, 70)", x -> x.left(0, 70), 1);
        unchanged("left(0, 71)", x -> x.left(0, 71), 0);
        unchanged("left(0, 0): a cut wire, too, is as likely as 0", x -> x.left(0, 0), 2);
        unchanged("left(0, 1)", x -> x.left(0, 1), 1);
        PartyLine x = fine("farms 8 moments 2;snow 3 at 0;snow 5 at 1;snow 10 at 2;snow 1 at 3;snow 9 at 4;snow 4 at 5;hears:1=2;", 8);
        int[][] due = {{0, 0, 7}, {0, 1, 2}, {0, 35, 2}, {0, 36, 1}, {0, 70, 1}, {0, 71, 0}, {0, 100, 0}, {7, 100, 1}, {6, 100, 1}, {7, 60, 2},
            {7, 61, 1}, {7, 6, 3}, {7, 7, 2}, {7, 5, 4}, {3, 9, 2}, {3, 10, 1}, {4, 10, 2}, {4, 11, 1}};
        for (int[] row : due) {
            due("left(" + row[0] + ", " + row[1] + ")", x.left(row[0], row[1]), row[2]);
        }
        x = fine("farms 8 moments 2;", 1);
        due("no snow: all", x.left(3, 100), 7);
        x.cut(3);
        due("this side of a cut", x.left(3, 100), 3);
        due("m = 0 counts all others", x.left(3, 0), 7);
        x = fine("farms 4 moments 2;snow 9 at 0;snow 9 at 1;snow 9 at 2;", 4);
        due("one in a hundred", x.left(0, 1), 2);
        due("two in a hundred", x.left(0, 2), 1);
        x = fine("farms 4 moments 2;snow 1 at 0;snow 1 at 1;snow 1 at 2;", 4);
        due("729 in 1000 is above 72 in 100", x.left(0, 72), 3);
        due("729 in 1000 is below 73 in 100", x.left(0, 73), 2);
    }

    static void leftRefuses() {
        sentence("Promise 43", "-2; -3.");
        refused("left(3, 0)", x -> x.left(3, 0), -2);
        refused("left(3, 101): -2 ahead of -3", x -> x.left(3, 101), -2);
        refused("left(0, 101)", x -> x.left(0, 101), -3);
        for (int wrong : WRONG) {
            refused("left(" + wrong + ", 0)", x -> x.left(wrong, 0), -2);
            refused("left(0, " + wrong + ")", x -> x.left(0, wrong), -3);
        }
        due("left(2, 100)", Scene.lived().left(2, 100), 0);
        due("left(2, 0)", Scene.lived().left(2, 0), 2);
    }
}
