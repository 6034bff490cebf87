/** The clauses of the promises 1 to 6: the page, and circles as texts. */
public final class TextClausesTest {
    private static final int NONE = Clauses.NONE, UNKNOWN = Clauses.UNKNOWN, OUTSIDE = Clauses.OUTSIDE,
            STATE = Clauses.STATE, FULL = Clauses.FULL, LEAST = Clauses.LEAST, MOST = Clauses.MOST;

    private static final String ORDINARY = "6:421:*>1>2;>3>4;>4;!>5;!;!";
    /** Nine persons with five vouches each, and as many marks and bounds as a full page leaves room for. */
    private static final String PAGEFUL = "9:1234:*>1>2>3>4>5;*>0>2>3>4>5;*>0>1>3>4>5;*>0>1>2>4>5;*>0>1>2>3>5;"
            + ">0>1>2>3>4;>0>1>2>3>4;>0>1>2>3>4;>0>1>2>3>4";
    /** The longest text of a circle, five characters more than a page holds. */
    private static final String LONGEST = "9:12345:*>1>2>3>4>5;*>0>2>3>4>5;*>0>1>3>4>5;*>0>1>2>4>5;*>0>1>2>3>5;"
            + "!>0>1>2>3>4;!>0>1>2>3>4;!>0>1>2>3>4;!>0>1>2>3>4";

    private final Clauses c = new Clauses();

    public static void main(String[] args) {
        TextClausesTest t = new TextClausesTest();
        t.newObject();
        t.letter();
        t.blank();
        t.fault();
        t.faultless();
        t.circle();
        t.circleRefused();
        t.ink();
        t.c.end("Promise 1", "Promise 2", "Promise 3", "Promise 4", "Promise 5", "Promise 6");
    }

    private void newObject() {
        c.section("Promise 1");
        c.says("Creates an object without a circle, with an empty page");
        VouchFlow x = new VouchFlow();
        c.dueInTurn(x, "count(#)", 0, 0, 0, 0, 0);
        c.due(x, "digest()", 1553L * 31 * 31 * 31 * 31 * 31);
        c.due(x, "about(0)", STATE);
        c.due(x, "person(0, 0)", UNKNOWN);
        c.due(x, "ink(0)", STATE);
        c.due(x, "fault()", 0);
        c.due(x, "circle()", STATE);
        c.due(x, "blank()", 0);
        VouchFlow other = c.read(ORDINARY);
        c.due(other, "letter(55)", 1);
        c.due(x, "digest()", 1553L * 31 * 31 * 31 * 31 * 31);
        c.due(new VouchFlow(), "count(0)", 0);
        c.due(other, "count(0)", 6);
    }

    private void letter() {
        c.section("Promise 2");
        c.says("Appends a character to the page");
        VouchFlow x = c.typed("3:1:;");
        c.due(x, "letter(59)", 6);
        c.due(x, "circle()", 3);
        c.inkIs(x, "3:1:;;");
        c.says("`code`: its code, 32 to 126");
        for (int code = 32; code <= 126; code++) {
            x = new VouchFlow();
            c.due(x, "letter(" + code + ")", 1);
            c.due(x, "digest()", ((((1553L * 31 + code) * 31 * 31 + 1) * 31) * 31) * 31);
        }
        c.says("Returns the number of characters then");
        x = new VouchFlow();
        for (int many = 1; many <= 110; many++) {
            c.due(x, "letter(126)", many);
        }
        c.due(x, "blank()", 110);
        c.due(x, "letter(32)", 1);
        c.says("OUTSIDE if code is out of range");
        // the numbers behind the first ones are good characters in their last 7, 8 or 16 bits
        int[] beyond = {31, 127, 0, -1, LEAST, MOST, 10, 128 + 49, 256 + 49, 65536 + 49, LEAST + 49, -256 + 49, -49};
        c.dueForEach(new VouchFlow(), "letter(#)", OUTSIDE, beyond);
        c.dueForEach(c.typed("1:0:"), "letter(#)", OUTSIDE, beyond);
        c.dueForEach(c.typed(PAGEFUL), "letter(#)", OUTSIDE, beyond);
        c.says("FULL if there are 110 characters");
        x = c.typed("~".repeat(109));
        c.due(x, "letter(32)", 110);
        c.dueForEach(x, "letter(#)", FULL, 32, 49, 126);
        c.due(x, "letter(31)", OUTSIDE);
        c.due(x, "letter(127)", OUTSIDE);
        c.due(x, "blank()", 110);
        c.due(x, "letter(49)", 1);
        x = c.typed(PAGEFUL);
        c.due(x, "letter(59)", FULL);
        c.due(x, "circle()", 9);
        c.due(x, "letter(59)", 1);
    }

    private void blank() {
        c.section("Promise 3");
        c.says("Empties the page");
        VouchFlow x = c.read(ORDINARY);
        c.type(x, "9:9");
        c.due(x, "blank()", 3);
        c.due(x, "count(1)", 0);
        c.due(x, "fault()", 0);
        c.due(x, "circle()", STATE);
        c.type(x, "1:0:");
        c.due(x, "circle()", 1);
        c.says("Returns how many characters it had");
        x = new VouchFlow();
        c.due(x, "blank()", 0);
        c.due(x, "letter(49)", 1);
        c.due(x, "blank()", 1);
        c.due(x, "blank()", 0);
        x = c.typed(PAGEFUL.substring(0, 109));
        c.due(x, "blank()", 109);
        c.type(x, PAGEFUL);
        c.due(x, "letter(32)", FULL);
        c.due(x, "blank()", 110);
        c.due(x, "blank()", 0);
        x = c.read(ORDINARY);
        long before = x.digest();
        c.due(x, "blank()", 0);
        c.type(x, "?");
        c.due(x, "blank()", 1);
        c.due(x, "digest()", before);
    }

    /** Behind these characters each of the signs can stand, and no other one. */
    private void goesOnWith(String start, String signs) {
        for (int code = 32; code <= 126; code++) {
            boolean good = signs.indexOf(code) >= 0;
            VouchFlow x = c.typed(start + (char) code);
            c.due(x, "fault()", good ? start.length() + 1 : start.length());
            if (!good) {
                // what comes behind the fault changes nothing
                c.type(x, ":1:;");
                c.due(x, "fault()", start.length());
            }
        }
    }

    private void fault() {
        c.section("Promise 4");
        c.says("Checks the page", "Returns the index of the first character such that no circle begins with the characters"
                + " up to and including it");
        goesOnWith("", "123456789");
        goesOnWith("1", ":");
        goesOnWith("9", ":");
        goesOnWith("3:", "0123456789");
        goesOnWith("3:0", "0123456789:");
        goesOnWith("3:9876", "0123456789:");
        goesOnWith("3:98765", ":");
        goesOnWith("1:0:", "*!");
        goesOnWith("1:0:*", "");
        goesOnWith("1:0:!", "");
        goesOnWith("2:0:", "*!>;");
        goesOnWith("2:0:;", "*!>");
        goesOnWith("2:0:;!", ">");
        goesOnWith("2:0:>", "1");
        goesOnWith("2:0:>1", ";");
        goesOnWith("2:0:>1;*>", "0");
        goesOnWith("2:0:>1;*>0", "");
        goesOnWith("4:1:*", ">;");
        goesOnWith("4:1:!", ">;");
        goesOnWith("4:1:>", "123");
        goesOnWith("4:1:>1", ">;");
        goesOnWith("4:1:>1>", "23");
        goesOnWith("4:1:>3", ";");
        goesOnWith("4:1:;>", "023");
        goesOnWith("4:1:;>0", ">;");
        goesOnWith("4:1:;>0>", "23");
        goesOnWith("4:1:;;>1>", "3");
        goesOnWith("4:1:;;;>1", ">");
        goesOnWith("4:1:;;;>1>", "2");
        goesOnWith("4:1:;;;>2", "");
        goesOnWith("9:1:;;;;;;;>6>", "8");
        goesOnWith("9:1:;;;;;;;>8", ";");
        goesOnWith("9:1:;;;;;;;;", "*!>");
        goesOnWith("9:1:;;;;;;;;>", "01234567");
        goesOnWith("9:1:;;;;;;;;>7", "");
        // the fifth and the sixth seed, the fifth and the sixth vouch
        goesOnWith("9:1:*;*;*;*;", "*!>;");
        goesOnWith("9:1:*;*;*;*;*;", "!>;");
        goesOnWith("9:1:*;*;*;*;*;!;!;!;", "!>");
        goesOnWith("9:1:>1>2>3>4", ">;");
        goesOnWith("9:1:>1>2>3>4>", "5678");
        goesOnWith("9:1:>1>2>3>4>5", ";");
        goesOnWith("9:1:;;;;;;;;>0>1>2>3>4", "");
        faultOfPages();
    }

    private void faultOfPages() {
        c.due(c.typed(PAGEFUL.substring(0, 109) + ";"), "fault()", 109);
        c.due(c.typed("0" + PAGEFUL.substring(1)), "fault()", 0);
        c.due(c.typed(" ".repeat(110)), "fault()", 0);
        c.due(c.typed("1:0:" + "*".repeat(106)), "fault()", 5);
        // a circle is on the page only when it is read, and the present one is no help
        VouchFlow x = c.read(ORDINARY);
        c.type(x, ";");
        c.due(x, "fault()", 0);
    }

    private void faultless() {
        c.says("the number of characters if there is none (the text may be complete or not)");
        c.due(new VouchFlow(), "fault()", 0);
        c.due(c.read(ORDINARY), "fault()", 0);
        for (String text : new String[] {ORDINARY, PAGEFUL, "1:0:", "9:98765:;;;;;;;;", "9:0:*;*;*;*;*;!;!;!;!"}) {
            for (int length = 0; length <= text.length(); length++) {
                c.due(c.typed(text.substring(0, length)), "fault()", length);
            }
        }
        // vouch() and kind() can make a circle that begins so, though no page holds the whole of it
        c.due(c.typed(LONGEST.substring(0, 110)), "fault()", 110);
        c.due(c.typed(LONGEST.substring(0, 109) + "*"), "fault()", 109);
    }

    private void circle() {
        c.section("Promise 5");
        c.says("Reads the page as the circle, in place of the former one, and empties the page");
        VouchFlow x = c.typed(PAGEFUL);
        c.due(x, "circle()", 9);
        c.due(x, "count(1)", 0);
        c.due(x, "fault()", 0);
        c.due(x, "circle()", STATE);
        c.type(x, "1:7:");
        c.due(x, "circle()", 1);
        c.inkIs(x, "1:7:");
        c.type(x, "9:0:;;;;;;;;");
        c.due(x, "circle()", 9);
        c.inkIs(x, "9:0:;;;;;;;;");
        c.due(x, "blank()", 0);
        c.due(x, "count(2)", 3);
        // the same text once more undoes what has been changed since
        c.due(x, "kind(0, 1)", 0);
        c.due(x, "vouch(0, 8)", 1);
        c.due(x, "bound(0, 9)", 0);
        c.type(x, "9:0:;;;;;;;;");
        c.due(x, "circle()", 9);
        c.inkIs(x, "9:0:;;;;;;;;");
        c.says("Returns the number of persons");
        for (int persons = 1; persons <= 9; persons++) {
            c.due(c.typed(persons + ":0:" + ";".repeat(persons - 1)), "circle()", persons);
        }
        for (String bounds : new String[] {"0", "9", "09", "090", "0909", "09090", "98765"}) {
            c.due(c.typed("2:" + bounds + ":*;!"), "circle()", 2);
        }
        c.due(c.typed("5:0:*;*;*;*;*"), "circle()", 5);
        c.due(c.typed("9:0:!;!;!;!;!;!;!;!;!"), "circle()", 9);
        x = c.typed(PAGEFUL);
        c.due(x, "circle()", 9);
        c.inkIs(x, PAGEFUL);
    }

    private void circleRefused() {
        c.says("STATE if the page is not the complete text of a circle (nothing changes)");
        for (String text : new String[] {"", " ", "0:0:", "1", "1:", "1:0", "1::", ":0:", "10:0:", "1:0:;", "1:0: ", " 1:0:",
            "2:0:", "2:0:;;", "9:0:;;;;;;;", "9:0:;;;;;;;;;", "2:543210:;", "2:0:>1;>", "2:0:>;", "2:0:>1;>1", "3:0:>2>1;;",
            "3:0:>1>1;;", "2:0:**;", "2:0:*!;", "2:0:>1*;", "2:0:1;", "6:0:*;*;*;*;*;*", "7:0:>1>2>3>4>5>6;;;;;;", "1:0:\u007e"}) {
            c.due(c.typed(text), "circle()", STATE);
            VouchFlow x = c.read(ORDINARY);
            c.type(x, text);
            c.due(x, "circle()", STATE);
            c.inkIs(x, ORDINARY);
            c.due(x, "blank()", text.length());
        }
        for (int length = 0; length < PAGEFUL.length(); length++) {
            // the last of the nine persons begins behind the eighth ;, and is whole but for a lone >
            boolean whole = length > PAGEFUL.lastIndexOf(';') && PAGEFUL.charAt(length - 1) != '>';
            c.due(c.typed(PAGEFUL.substring(0, length)), "circle()", whole ? 9 : STATE);
        }
        c.due(c.typed(LONGEST), "circle()", STATE);
        // the page is kept, and can still be made whole
        VouchFlow x = c.typed("2:34:*>1");
        c.due(x, "circle()", STATE);
        c.due(x, "letter(59)", 9);
        c.due(x, "circle()", 2);
        c.inkIs(x, "2:34:*>1;");
    }

    private void ink() {
        c.section("Promise 6");
        c.says("Returns a character of the present circle, written as a text", "Returns its code");
        c.dueInTurn(c.read("1:0:"), "ink(#)", '1', ':', '0', ':', NONE);
        c.dueInTurn(c.read("2:90:!>1;*"), "ink(#)", '2', ':', '9', '0', ':', '!', '>', '1', ';', '*', NONE);
        VouchFlow x = c.read("2:90:!>1;*");
        c.due(x, "kind(0, 0)", 2);
        c.due(x, "recall(0, 1)", 0);
        c.due(x, "bound(1, 5)", 0);
        c.inkIs(x, "2:95:;*");
        // what is on the page is not the present circle
        c.type(x, "1:0:");
        c.inkIs(x, "2:95:;*");
        c.says("`place`: index of the character");
        c.due(c.read(PAGEFUL), "ink(0)", '9');
        c.due(c.read(PAGEFUL), "ink(109)", '4');
        x = longest();
        c.inkIs(x, LONGEST);
        c.due(x, "ink(109)", '>');
        c.due(x, "ink(110)", '2');
        c.due(x, "ink(114)", '4');
        c.says("NONE if there are not so many characters");
        c.dueForEach(x, "ink(#)", NONE, 115, 116, MOST);
        c.dueForEach(c.read(PAGEFUL), "ink(#)", NONE, 110, 111, 114, 115, MOST);
        c.dueForEach(c.read("1:0:"), "ink(#)", NONE, 4, 5, 109, 110, 111, 65536, MOST);
        c.says("STATE if there is no circle");
        c.dueForEach(new VouchFlow(), "ink(#)", STATE, 0, 1, 110, MOST, -1, LEAST);
        c.dueForEach(c.typed("1:0:"), "ink(#)", STATE, 0, 3, 4, -1);
        c.says("UNKNOWN if place is negative");
        c.dueForEach(c.read("1:0:"), "ink(#)", UNKNOWN, -1, -2, -101, LEAST, LEAST + 1);
        c.dueForEach(x, "ink(#)", UNKNOWN, -1, LEAST);
    }

    private VouchFlow longest() {
        VouchFlow x = c.read("9:12345:*;*;*;*;*;!;!;!;!");
        for (int by = 0; by < 9; by++) {
            // the vouches come in the wrong order here
            for (int whom = by < 5 ? 5 : 4; whom >= 0; whom--) {
                x.vouch(by, whom);
            }
        }
        return x;
    }
}
