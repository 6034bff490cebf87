/** The clauses of the promises 16 to 21: trust, cuts, and what would be without a vouch. */
public final class TrustClausesTest {
    private static final int NONE = Clauses.NONE, UNKNOWN = Clauses.UNKNOWN, OUTSIDE = Clauses.OUTSIDE,
            STATE = Clauses.STATE, LEAST = Clauses.LEAST, MOST = Clauses.MOST;

    private static final String ORDINARY = "6:421:*>1>2;>3>4;>4;!>5;!;!";
    /** A seed with just as many parts as there are persons, and eight false persons whom they can reach. */
    private static final String FLOODED = "9:999:*>1>2>3>4>5;!>6>7>8;!;!;!;!;!;!;!";
    private static final int[] NOBODY = Clauses.NOBODY;

    private final Clauses c = new Clauses();

    public static void main(String[] args) {
        TrustClausesTest t = new TrustClausesTest();
        t.trust();
        t.together();
        t.cut();
        t.apart();
        t.without();
        t.withoutRefused();
        t.dearest();
        t.c.end("Promise 16", "Promise 17", "Promise 18", "Promise 19", "Promise 20", "Promise 21");
    }

    private void trusts(int what, int due, String text) {
        c.due(c.read(text), "trust(" + what + ")", due);
    }

    private void trust() {
        c.section("Promise 16");
        c.says("Returns a figure of trust", "Returns the figure");
        c.dueInTurn(c.read(ORDINARY), "trust(#)", 4, 1, 2, 4, 4, OUTSIDE);
        c.says("`what`: 0: how many are in");
        trusts(0, 0, "9:99999:>1;>2;>3;>4;>5;>6;>7;>8;>0");
        trusts(0, 0, "5:09999:*>1;*>2;*>3;*>4;*>0");
        trusts(0, 1, "1:1:*");
        trusts(0, 9, FLOODED);
        c.says("1: how many false persons are in");
        trusts(1, 0, "3:999:*>1;>2;");
        trusts(1, 0, "3:999:!>1;!>2;!");
        trusts(1, 8, FLOODED);
        c.says("2: the flood");
        trusts(2, 0, "3:999:*>1;>2;");
        trusts(2, 0, "3:999:!>1;!>2;!");
        trusts(2, 8, FLOODED);
        trusts(2, 7, FLOODED.replace(":9", ":7"));
        // the plain persons come first by their numbers, and need not be in for the flood
        trusts(1, 0, "4:299:*>1>2>3;;!;!");
        trusts(2, 2, "4:299:*>1>2>3;;!;!");
        c.says("3: the harm");
        trusts(3, 0, "3:999:*>1;>2;");
        trusts(3, 0, "3:099:*>1>2;!;!");
        trusts(3, 72, "9:99:*>5>8;*>6>8;*>7>8;*>8;*>8;>8;>8;>8;!");
        c.says("4: how many would be in if no false person vouched for anybody (levels and limits included)");
        trusts(4, 0, "3:999:!>1;!>2;!");
        trusts(4, 6, FLOODED);
        trusts(4, 3, "3:999:*>1;>2;!");
        trusts(4, 2, "3:999:!>2;*>0;");
        trusts(4, 2, "9:999:;;;;;;>8;*>8;!>6");
        // person 2 comes to level 3 then, for which there is no bound, and is not in
        trusts(0, 5, "5:999:*>1>3;!>2;;>4;>2");
        trusts(4, 4, "5:999:*>1>3;!>2;;>4;>2");
        // person 0 comes to level 3 then, where the limit is higher, and person 7 is in by that
        trusts(0, 8, "9:99399:>1>6>7;;*>3>8;>4>5;>0;>0;;;!>0");
        trusts(4, 9, "9:99399:>1>6>7;;*>3>8;>4>5;>0;>0;;;!>0");
        c.says("OUTSIDE if what is out of range");
        c.dueForEach(c.read(ORDINARY), "trust(#)", OUTSIDE, -1, 5, LEAST, MOST, 6, 256, 65536, LEAST + 4);
        c.dueForEach(new VouchFlow(), "trust(#)", OUTSIDE, -1, 5, LEAST, MOST);
        c.says("STATE if there is no circle");
        c.dueInTurn(new VouchFlow(), "trust(#)", STATE, STATE, STATE, STATE, STATE, OUTSIDE);
        c.due(c.typed(ORDINARY), "trust(0)", STATE);
    }

    private void together() {
        c.section("Promise 17");
        c.says("Tells whether a set of persons can be in together", "Returns 1 or 0");
        // two parts come to the seed, and one to each of the others
        c.dueInTurn(c.read("4:211:*>1>2;>3;>3;"), "together(#)", 1, 1, 1, 1, 1, 1, 1, 0, 1, 1, 1, 0, 1, 0, 0, 0, UNKNOWN);
        c.says("`persons`: the set");
        c.dueInTurn(c.read("1:1:*"), "together(#)", 1, 1, UNKNOWN);
        c.dueInTurn(c.read("1:0:*"), "together(#)", 1, 0, UNKNOWN);
        c.dueInTurn(c.read("1:9:"), "together(#)", 1, 0, UNKNOWN);
        VouchFlow x = c.read(FLOODED);
        c.dueForEach(x, "together(#)", 1, 0, 1, 2, 4, 8, 16, 32, 64, 128, 256, 510, 511);
        c.due(x, "bound(0, 8)", 9);
        c.due(x, "together(511)", 0);
        c.dueForEach(x, "together(#)", 1, 510, 509, 255);
        c.due(x, "bound(0, 0)", 8);
        c.dueForEach(x, "together(#)", 0, 1, 2, 4, 8, 16, 32, 64, 128, 256, 510, 511);
        c.due(x, "together(0)", 1);
        c.says("STATE if there is no circle");
        c.dueForEach(new VouchFlow(), "together(#)", STATE, 0, 1, 511, 512, -1, LEAST, MOST);
        c.due(c.typed("1:1:*"), "together(1)", STATE);
        c.says("UNKNOWN if the set contains a person who does not exist");
        c.dueForEach(c.read(FLOODED), "together(#)", UNKNOWN, 512, 513, 1023, 1024, 1 << 30, LEAST, MOST, -1, -512, LEAST + 1);
        c.dueForEach(c.read("8:9:*;;;;;;;"), "together(#)", UNKNOWN, 256, 257, 511, 512, LEAST, -256, -1);
        c.dueForEach(c.read("1:9:*"), "together(#)", UNKNOWN, 2, 3, 512, LEAST, MOST, -1, -2);
    }

    private void cuts(String text, int cost, int wall, int reached) {
        c.dueInTurn(c.read(text), "cut(#)", cost, wall, reached, OUTSIDE);
    }

    private void cut() {
        c.section("Promise 18");
        c.says("Returns a part of the cut of the circle", "Returns the part");
        cuts(ORDINARY, 2, 0b011000, 0b000111);
        c.says("`what`: 0: its cost");
        cuts("1:5:", 0, 0, 0);
        cuts("1:5:!", 0, 0, 0);
        cuts(FLOODED, 8, 0, 511);
        c.says("1: its wall, as a set");
        cuts("1:0:*", 0, 1, 0);
        cuts(FLOODED.replace(":9", ":8"), 8, 1, 0);
        cuts(FLOODED.replace(":9", ":7"), 7, 1, 0);
        cuts(FLOODED.replace(":9", ":0"), 0, 1, 0);
        cuts("5:0:*>1;*>2;*>3;*>4;*>0", 0, 31, 0);
        cuts("9:90:;;;;;;;*>8;!", 0, 256, 128);
        c.says("2: the reached persons, as a set");
        cuts("1:5:*", 0, 0, 1);
        cuts("9:99:;;;;;;;;*", 0, 0, 256);
        // the seed without vouches is reached, the other one is the wall
        cuts("3:19:*>2;*;!", 1, 0b001, 0b010);
        c.says("OUTSIDE if what is out of range");
        c.dueForEach(c.read(ORDINARY), "cut(#)", OUTSIDE, -1, 3, LEAST, MOST, 4, 256, 65536, LEAST + 2);
        c.dueForEach(new VouchFlow(), "cut(#)", OUTSIDE, -1, 3, LEAST, MOST);
        c.says("STATE if there is no circle");
        c.dueInTurn(new VouchFlow(), "cut(#)", STATE, STATE, STATE, OUTSIDE);
        c.due(c.typed(ORDINARY), "cut(0)", STATE);
    }

    private void apartIs(int due, int person, String text) {
        c.due(c.read(text), "apart(" + person + ")", due);
    }

    private void apart() {
        c.section("Promise 19");
        c.says("Finds the fewest other persons, also seeds, who must be removed so that no path along vouches leads from a"
                + " seed that is left to a person");
        // nobody need be removed: no seeds, no vouches, or none that leads there
        apartIs(0, 0, "1:0:");
        apartIs(0, 1, "3:0:>1;>2;>0");
        apartIs(0, 1, "2:0:*;!");
        apartIs(0, 1, "2:0:*;>0");
        // all the seeds, and nobody else, vouch for the person
        apartIs(0b11111, 5, "6:0:*>5;*>5;*>5;*>5;*>5;");
        apartIs(0b111110, 0, "6:0:;*>0;*>0;*>0;*>0;*>0");
        // four can be held by two, though they have numbers above those of the seeds
        apartIs(0b0110000, 6, "7:0:*>4;*>4;*>5;*>5;>6;>6;");
        // a seed that is removed, and lies on the way of another one
        apartIs(0b010, 2, "3:0:*>1;*>2;");
        // 1 and 2 are not enough: person 0 is left
        apartIs(0b0001100, 6, "7:0:>6;>6;>6;*>0>1;*>2;;");
        c.says("of several such sets the smallest number");
        apartIs(0b01, 2, "4:0:*>1;>2;;");
        apartIs(0b00010, 0, "5:0:;>0;>1;>2;*>3");
        apartIs(0b0000110, 6, "7:0:>6;>0>5;>0>5;*>1>2;*>1>2;>6;");
        // 0 and 3 are a smaller number than 1 and 3, than 0 and 4, and than 1 and 4
        apartIs(0b001001, 5, "6:0:*>1;>5;;*>4;>5;");
        c.says("`person`: number of the person");
        apartIs(0b100000000, 0, "9:0:;;;;;;;;*>0");
        apartIs(0b000000001, 8, "9:0:*>8;;;;;;;;");
        c.says("Returns the set");
        apartIs(0b110000000, 6, "9:0:;;;;;;;*>6;*>6");
        c.says("NONE if the person is a seed");
        apartIs(NONE, 0, "1:0:*");
        apartIs(NONE, 8, "9:0:;;;;;;;*>8;*>7");
        VouchFlow x = c.read("2:0:*>1;");
        c.due(x, "apart(1)", 1);
        c.due(x, "kind(1, 1)", 0);
        c.due(x, "apart(1)", NONE);
        c.says("UNKNOWN if there is no such person");
        c.dueForEach(new VouchFlow(), "apart(#)", UNKNOWN, 0, 1, -1, LEAST, MOST);
        c.dueForEach(c.read("1:0:*"), "apart(#)", UNKNOWN, -1, 1, LEAST, MOST, 32);
        c.dueForEach(c.read(FLOODED), "apart(#)", UNKNOWN, NOBODY);
    }

    private void without() {
        c.section("Promise 20");
        c.says("Returns what would be without a vouch", "Returns the answer");
        c.dueInTurn(c.read("3:999:*>1;>2;"), "without(0, 1, #)", 1, 0, NONE, OUTSIDE);
        c.dueInTurn(c.read("3:999:*>1;>2;"), "without(1, 2, #)", 2, 0, NONE, OUTSIDE);
        c.says("Nothing is changed");
        VouchFlow x = c.read(ORDINARY);
        c.due(x, "without(0, 1, 0)", 3);
        c.inkIs(x, ORDINARY);
        c.dueInTurn(x, "trust(#)", 4, 1, 2, 4, 4);
        c.due(x, "count(4)", 0);
        c.due(x, "vouch(0, 1)", STATE);
        c.says("`by`: number of the person who vouches");
        c.due(c.read("9:99:*>4;;;;;;;;"), "without(0, 4, 0)", 1);
        c.due(c.read("9:99:;;;;;;;;*>4"), "without(8, 4, 0)", 1);
        c.says("`whom`: number of another person");
        c.due(c.read("9:99:;;;;*>0;;;;"), "without(4, 0, 0)", 1);
        c.due(c.read("9:99:;;;;*>8;;;;"), "without(4, 8, 0)", 1);
        c.says("`what`: 0: how many would be in");
        c.due(c.read("2:9:>1;"), "without(0, 1, 0)", 0);
        c.due(c.read(FLOODED), "without(1, 8, 0)", 8);
        c.due(c.read(FLOODED), "without(0, 1, 0)", 5);
        // person 0 comes to level 2 then, where the limit is higher: more would be in than are
        c.due(c.read("8:9299:>1>5>6;;*>0>3>4>7;>0;>0;;;>0"), "trust(0)", 6);
        c.due(c.read("8:9299:>1>5>6;;*>0>3>4>7;>0;>0;;;>0"), "without(2, 0, 0)", 7);
        c.says("1: how many false persons would be in");
        c.due(c.read("3:999:*>1;!>2;!"), "without(0, 1, 1)", 0);
        c.due(c.read("3:999:*>1;!>2;!"), "without(1, 2, 1)", 1);
        c.due(c.read(FLOODED), "without(1, 8, 1)", 7);
        c.says("2: the level of whom, NONE if there would be none");
        c.due(c.read("3:0:*>1>2;>2;"), "without(0, 2, 2)", 2);
        c.due(c.read("3:0:*>1>2;>2;"), "without(1, 2, 2)", 1);
        c.due(c.read("3:0:*>1>2;>2;"), "without(0, 1, 2)", NONE);
        c.due(c.read("2:0:*;>0"), "without(1, 0, 2)", 0);
        c.due(c.read("9:0:*>1>8;>2;>3;>4;>5;>6;>7;>8;"), "without(0, 8, 2)", 8);
        // only those stay who have no level themselves
        c.due(c.read("3:0:*>1;>2;>1"), "without(0, 1, 2)", NONE);
    }

    private void withoutRefused() {
        c.says("UNKNOWN if there is no such person, or both are the same");
        for (int what : new int[] {0, 2, 3, -1}) {
            c.dueForEach(new VouchFlow(), "without(#, 1, " + what + ")", UNKNOWN, 0, 1, -1);
            c.dueForEach(c.read("1:0:"), "without(0, #, " + what + ")", UNKNOWN, 0, 1, -1);
            c.dueForEach(c.read("8:0:;;;;;;;*>0>6"), "without(7, #, " + what + ")", UNKNOWN, 7, 8, -1, 32, 38);
            c.dueForEach(c.read(FLOODED), "without(0, #, " + what + ")", UNKNOWN, NOBODY);
            c.dueForEach(c.read(FLOODED), "without(#, 1, " + what + ")", UNKNOWN, NOBODY);
            c.dueForEach(c.read(FLOODED), "without(#, 9, " + what + ")", UNKNOWN, NOBODY);
            for (int person = 0; person < 9; person++) {
                c.due(c.read(FLOODED), "without(" + person + ", " + person + ", " + what + ")", UNKNOWN);
            }
        }
        c.says("STATE if there is no such vouch");
        c.dueForEach(c.read("2:99:*>1;"), "without(1, 0, #)", STATE, 0, 1, 2);
        // there is no such vouch and no such figure: the vouch comes first
        c.dueForEach(c.read("2:99:*>1;"), "without(1, 0, #)", STATE, -1, 3, LEAST, MOST);
        VouchFlow x = c.read("2:99:*>1;");
        c.due(x, "recall(0, 1)", 0);
        c.due(x, "without(0, 1, 0)", STATE);
        c.due(x, "vouch(0, 1)", 1);
        c.due(x, "without(0, 1, 0)", 1);
        c.dueForEach(c.read(FLOODED), "without(0, #, 0)", STATE, 6, 7, 8);
        c.says("OUTSIDE if what is out of range");
        c.dueForEach(c.read("2:99:*>1;"), "without(0, 1, #)", OUTSIDE, -1, 3, LEAST, MOST, 4, 256, 65536, LEAST + 2);
        c.dueForEach(c.read(FLOODED), "without(1, 8, #)", OUTSIDE, -1, 3, LEAST, MOST);
    }

    private void dearestIs(int due, String text) {
        c.due(c.read(text), "dearest()", due);
    }

    private void dearest() {
        c.section("Promise 21");
        c.says("Finds the vouch without which the fewest persons would be in");
        dearestIs(2, "5:99999:*>1>2;;>3;>4;");
        dearestIs(43, "5:99999:>1;;>0;>2>4;*>3");
        // without 2 for 0 more persons would be in than with it, without 2 for 3 fewer
        dearestIs(23, "8:9299:>1>5>6;;*>0>3>4>7;>0;>0;;;>0");
        // those whose loss makes no difference come first by their numbers, and are not dear
        dearestIs(54, "6:99:>1;>2;>3;;;*>4");
        c.says("of several the one by the smallest number, then for the smallest number");
        dearestIs(2, "3:99:>2;>0;");
        dearestIs(1, "4:99:>1>2>3;>0;>0;*");
        dearestIs(13, "4:99:;*>3;*>0;");
        // whichever vouch is lost, all nine would be in, or the same eight
        dearestIs(5, "9:99:*>5>6>7>8;*>5>6>7>8;*;*;*;;;;");
        dearestIs(5, "9:99:*>5>6>7;*>5>6>7;*;*;*;;;;");
        dearestIs(10, "4:99:;*>0>2>3;;");
        c.says("Returns 10 * by + whom");
        dearestIs(1, "2:99:*>1;");
        dearestIs(10, "2:99:;*>0");
        dearestIs(8, "9:99:*>8;;;;;;;;");
        dearestIs(80, "9:99:;;;;;;;;*>0");
        dearestIs(78, "9:99:;;;;;;;*>8;");
        dearestIs(87, "9:99:;;;;;;;;*>7");
        c.says("NONE if there are no vouches");
        dearestIs(NONE, "1:9:*");
        dearestIs(NONE, "9:9:*;*;!;!;;;;;");
        VouchFlow x = c.read("2:99:*>1;");
        c.due(x, "recall(0, 1)", 0);
        c.due(x, "dearest()", NONE);
        c.says("STATE if there is no circle");
        c.due(new VouchFlow(), "dearest()", STATE);
        c.due(c.typed("2:99:*>1;"), "dearest()", STATE);
    }
}
