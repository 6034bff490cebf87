import java.util.Arrays;

/** The clauses of the description: circles, trust, walks, texts and errors. */
public final class DescriptionTest {
    private static final int NONE = Clauses.NONE, UNKNOWN = Clauses.UNKNOWN, OUTSIDE = Clauses.OUTSIDE,
            STATE = Clauses.STATE, FULL = Clauses.FULL, LEAST = Clauses.LEAST, MOST = Clauses.MOST;

    private static final String ORDINARY = "6:421:*>1>2;>3>4;>4;!>5;!;!";
    private static final String CHAIN = "9:98765:*>1;>2;>3;>4;>5;>6;>7;>8;";
    /** A seed with just as many parts as there are persons, all of whom they can reach. */
    private static final String STAR = "9:949:*>1>2>3>4>5;>6>7>8;;;;;;;";
    private static final String SEEDLESS = "3:11:>1;>2;!>0";
    /** Five seeds, and a person who vouches for five. */
    private static final String CROWD = "9:12345:*>1>2>3>4>5;*;*;*;*;!;!;;";

    private final Clauses c = new Clauses();

    public static void main(String[] args) {
        DescriptionTest t = new DescriptionTest();
        t.calls();
        t.circles();
        t.levels();
        t.flow();
        t.letIn();
        t.cuts();
        t.takenIn();
        t.ways();
        t.walks();
        t.texts();
        t.errors();
        t.errorOrder();
        t.errorKinds();
        t.errorsChangeNothing();
        t.constants();
        t.c.end("CIRCLES", "TRUST", "WALKS", "TEXTS", "ERRORS");
    }

    private void calls() {
        c.section("What it is");
        c.says("An object is used for at most 512 calls after it has been made");
        // 7 calls for the circle, 504 for a vouch that comes and goes, and the last one
        VouchFlow x = Checks.read("2:9:*;");
        for (int i = 0; i < 252; i++) {
            c.note("vouch(0, 1)", x.vouch(0, 1), 1);
            c.note("recall(0, 1)", x.recall(0, 1), 0);
        }
        c.note("count(3), the 512th call", x.count(3), 252);
        x = new VouchFlow();
        for (int i = 1; i <= 511; i++) {
            c.note("letter(57), call " + i, x.letter(57), i <= 110 ? i : FULL);
        }
        c.note("blank(), the 512th call", x.blank(), 110);
    }

    private void circles() {
        c.section("CIRCLES");
        c.says("A circle has 1 to 9 persons, numbered from 0, and 1 to 5 bounds, which are numbers from 0 to 9");
        for (int persons = 1; persons <= 9; persons++) {
            VouchFlow x = c.read(persons + ":0:" + ";".repeat(persons - 1));
            c.due(x, "about(0)", persons);
            c.due(x, "person(0, 0)", 0);
            c.due(x, "person(" + (persons - 1) + ", 0)", 0);
            c.due(x, "person(" + persons + ", 0)", UNKNOWN);
            c.due(x, "person(-1, 0)", UNKNOWN);
        }
        c.due(c.typed("0:0:"), "circle()", STATE);
        c.due(c.typed("10:0:;;;;;;;;;"), "circle()", STATE);
        for (int bounds = 0; bounds <= 6; bounds++) {
            c.due(c.typed("1:" + "0".repeat(bounds) + ":"), "circle()", bounds >= 1 && bounds <= 5 ? 1 : STATE);
        }
        for (int v = -1; v <= 10; v++) {
            boolean good = v >= 0 && v <= 9;
            c.due(c.read("1:3:"), "bound(0, " + v + ")", good ? 3 : OUTSIDE);
            c.due(c.typed("1:" + (char) ('0' + v) + ":"), "circle()", good ? 1 : STATE);
        }
        c.says("Each person is of a kind: 0 plain, 1 seed (at most five of them), 2 false");
        c.dueInTurn(c.read("3:0:;*;!"), "person(#, 0)", 0, 1, 2);
        c.due(c.typed("6:0:*;*;*;*;*;"), "circle()", 6);
        c.due(c.typed("6:0:*;*;*;*;*;*"), "circle()", STATE);
        c.due(c.read("6:0:*;*;*;*;*;"), "kind(5, 1)", FULL);
        // of the other kinds there can be nine
        c.due(c.typed("9:0:!;!;!;!;!;!;!;!;!"), "circle()", 9);
        c.dueForEach(c.read("9:0:;;;;;;;;"), "kind(#, 2)", 0, 0, 1, 2, 3, 4, 5, 6, 7, 8);
        c.says("as types, seed and false extend plain");
        c.dueInTurn(c.read("3:0:;*;!"), "as(#, 0)", 0, 1, 2);
        c.dueInTurn(c.read("3:0:;*;!"), "as(#, 1)", NONE, 1, NONE);
        c.dueInTurn(c.read("3:0:;*;!"), "as(#, 2)", NONE, NONE, 2);
        c.says("A person vouches for up to five other persons");
        c.due(c.typed("7:0:>1>2>3>4>5;;;;;;"), "circle()", 7);
        c.due(c.typed("7:0:>1>2>3>4>5>6;;;;;;"), "circle()", STATE);
        c.due(c.read("7:0:>1>2>3>4>5;;;;;;"), "vouch(0, 6)", FULL);
        c.due(c.read("7:0:>1>2>3>4;;;;;;"), "vouch(0, 6)", 5);
        c.due(c.typed("2:0:>0;"), "circle()", STATE);
        c.due(c.read("2:0:;"), "vouch(0, 0)", UNKNOWN);
        c.says("At first there is no circle");
        c.due(new VouchFlow(), "count(0)", 0);
        c.due(new VouchFlow(), "about(0)", STATE);
        c.due(new VouchFlow(), "ink(0)", STATE);
    }

    private void levels() {
        c.says("The level of a seed is 0");
        // also if others vouch for the seed
        c.dueInTurn(c.read("3:9:*>1;*>2;>0>1"), "person(#, 1)", 0, 0, 1);
        c.says("The level of any other person is 1 more than the smallest level of those who vouch for this person, if one of"
                + " them has a level");
        c.dueInTurn(c.read(CHAIN), "person(#, 1)", 0, 1, 2, 3, 4, 5, 6, 7, 8);
        // 5 is vouched for by 4 at level 4, by 1 at level 1 and by 6, who has no level
        c.dueInTurn(c.read("7:0:*>1;>2>5;>3;>4;>5;;>5"), "person(#, 1)", 0, 1, 2, 3, 4, 2, NONE);
        c.says("otherwise the person has no level");
        c.dueInTurn(c.read(SEEDLESS), "person(#, 1)", NONE, NONE, NONE);
        c.dueInTurn(c.read("4:0:*;>0;>3;>2"), "person(#, 1)", 0, NONE, NONE, NONE);
        c.says("The limit of a person is the bound with the index of the level (the first bound for level 0)");
        c.dueForEach(c.read(CHAIN), "person(#, 2)", 9, 0);
        c.dueForEach(c.read(CHAIN), "person(#, 2)", 5, 4);
        c.due(c.read("1:0:*"), "person(0, 2)", 0);
        c.says("it is 0 if there are not so many bounds, or the person has no level");
        c.dueForEach(c.read(CHAIN), "person(#, 2)", 0, 5, 6, 7, 8);
        c.dueInTurn(c.read("2:9:*>1;"), "person(#, 2)", 9, 0);
        c.dueInTurn(c.read("2:99:*;>0"), "person(#, 2)", 9, 0);
        c.dueInTurn(c.read("3:99:>1;>2;>0"), "person(#, 2)", 0, 0, 0);
    }

    private void flow() {
        c.section("TRUST");
        c.says("Trust comes to seeds from outside, and goes from a person to any person for whom this one vouches, in whole parts");
        c.due(c.read("2:99:>1;>0"), "trust(0)", 0);
        c.dueInTurn(c.read("4:99:*>1;;;>0"), "person(#, 5)", 1, 1, 0, 0);
        // a part cannot be divided among two
        c.dueInTurn(c.read("3:19:*>1>2;;"), "together(#)", 1, 1, 1, 0, 1, 0, 0, 0);
        c.says("To no person come more parts than the limit");
        c.due(c.read("1:0:*"), "trust(0)", 0);
        c.due(c.read("1:1:*"), "trust(0)", 1);
        c.due(c.read(STAR), "trust(0)", 9);
        c.dueInTurn(c.read(STAR.replace("949", "849")), "person(#, 5)", 1, 1, 1, 1, 1, 1, 1, 1, 0);
        // person 1 needs four parts, for three others
        c.dueInTurn(c.read(STAR.replace("949", "939")), "person(#, 5)", 1, 1, 1, 1, 1, 1, 1, 1, 0);
        c.dueInTurn(c.read(STAR.replace("949", "919")), "person(#, 5)", 1, 1, 1, 1, 1, 1, 0, 0, 0);
        c.dueInTurn(c.read(STAR.replace("949", "909")), "person(#, 5)", 1, 0, 0, 0, 0, 0, 0, 0, 0);
        // what comes to a seed from another one counts, too
        c.dueInTurn(c.read("3:19:*>1;*>2;"), "together(#)", 1, 1, 1, 1, 1, 1, 0, 0);
        c.says("Of the parts that come, a person keeps one or none");
        c.dueInTurn(c.read("3:111:*>1;>2;"), "together(#)", 1, 1, 1, 0, 1, 0, 0, 0);
        c.due(c.read("1:9:*"), "trust(0)", 1);
        c.says("all others go on");
        c.due(c.read("3:321:*>1;>2;"), "together(7)", 1);
        c.due(c.read("3:221:*>1;>2;"), "together(7)", 0);
        c.due(c.read("3:311:*>1;>2;"), "together(7)", 0);
        // they do not become more on their way round
        c.due(c.read("3:299:*>1;>2;>1"), "together(7)", 0);
        c.due(c.read("3:299:*>1;>2;>1"), "together(6)", 1);
    }

    private void letIn() {
        c.says("A set of persons can be in together if trust can flow so that each of them keeps a part");
        c.due(c.read("1:0:"), "together(0)", 1);
        c.due(c.read(STAR), "together(511)", 1);
        c.due(c.read(STAR.replace("949", "849")), "together(511)", 0);
        c.due(c.read(STAR.replace("949", "849")), "together(510)", 1);
        // the part of 5 must come by 1 and 4 instead of 0 and 2, so that 0 can give to 3 and 6
        c.due(c.read("7:111:*>2>3;*>4;>5;>6;>5;;"), "together(96)", 1);
        // 1, 3 and 5 need three parts of 1, who has two; it does not help that 2 can have one of 4
        c.due(c.read("6:2221:;*>2>5;;;*>2;>3"), "together(46)", 0);
        // 6 has its part by 7, 0, 4 and 1, and 2 by 7 and 0
        c.dueForEach(c.read("8:2212:>2>4;>0>2>3>6;>5;*>1>5;!>1>2;;;*>0"), "together(#)", 1, 0b1001110, 0b1100110, 0b1101100);
        c.says("The persons who are in are determined one after another, by increasing numbers: each one is in who can be in"
                + " together with those who are in already");
        // the one part goes to the smallest number, wherever the seed stands
        c.dueInTurn(c.read("3:19:;;*>0>1"), "person(#, 5)", 1, 0, 0);
        c.dueInTurn(c.read("3:19:*>1>2;;"), "person(#, 5)", 1, 0, 0);
        c.dueInTurn(c.read("3:29:;;*>0>1"), "person(#, 5)", 1, 1, 0);
        // after one who is not in others can be
        c.dueInTurn(c.read("4:91:;>0;*>3;"), "person(#, 5)", 0, 0, 1, 1);
        // the part of 1 moves to the way by 3, so that 2 can be in
        c.dueInTurn(c.read("5:911:*>2>3;!;>1>4;>1;"), "person(#, 5)", 1, 1, 1, 0, 0);
        c.says("The flood is the greatest number of false persons who can be in together");
        c.due(c.read("9:999:!;!;!;!;!;!;!;!;!"), "trust(2)", 0);
        c.due(c.read("9:999:*;*;*;*;*;;;;"), "trust(2)", 0);
        c.due(c.read("9:949:*>1>2>3>4>5;!>6>7>8;!;!;!;!;!;!;!"), "trust(2)", 8);
        c.due(c.read("9:939:*>1>2>3>4>5;!>6>7>8;!;!;!;!;!;!;!"), "trust(2)", 7);
        // others need not be in for it
        c.dueForEach(c.read("4:299:*>1>2>3;;!;!"), "trust(#)", 2, 0, 2);
        c.due(c.read("4:299:*>1>2>3;;!;!"), "trust(1)", 0);
    }

    private void cutIs(String text, int cost, int wall, int reached) {
        c.dueInTurn(c.read(text), "cut(#)", cost, wall, reached);
    }

    private void cuts() {
        c.says("A cut is a set of persons, who are called reached");
        cutIs("1:9:", 0, 0, 0);
        cutIs("9:99:*>1;*>2;*>3;*>4;*>5;;;;", 0, 0, 0b000111111);
        c.says("its wall consists of the persons who are not reached, and are seeds or are vouched for by a reached person");
        cutIs("5:0:*>1;*>2;*>3;*>4;*>0", 0, 31, 0);
        // the false ones behind the wall are vouched for by nobody who is reached
        cutIs("4:90:*>1;>2>3;!;!", 0, 0b0010, 0b0001);
        cutIs("3:19:*>2;*;!", 1, 0b001, 0b010);
        c.says("It costs the sum of the limits of its wall, plus 1 for each false person who is reached");
        cutIs("4:911:*>1>2;>3;>3;!", 1, 0b1000, 0b0111);
        cutIs("7:912:*>1>2;>3>4>5;>4>5>6;!;!;!;!", 2, 0b0000110, 0b0000001);
        cutIs("4:999:*>1>2;!;!>3;", 2, 0, 0b1111);
        // both: the wall is person 3 with the limit 1, and the false person 1 is reached
        cutIs("6:9919:*>1>2;!;>3;>4>5;!;!", 2, 0b001000, 0b000111);
        c.says("The cut of the circle is the one with the smallest cost");
        cutIs("3:399:*>1>2;!;!", 2, 0, 0b111);
        cutIs("3:199:*>1>2;!;!", 1, 0b001, 0);
        c.says("of several the one with the fewest reached persons (there is exactly one such)");
        cutIs("3:299:*>1>2;!;!", 2, 0b001, 0);
        cutIs("4:111:*>1;>2;>3;!", 0, 0b1000, 0b0111);
        cutIs("4:1111:*>1;>2;>3;!", 1, 0b0001, 0);
        cutIs("4:2111:*>1;>2;>3;!", 1, 0b0010, 0b0001);
        cutIs("1:0:*", 0, 1, 0);
    }

    private void takenIn() {
        c.says("A person is taken in who is not false, has a limit above 0, and vouches for a false person");
        // a false one, and a plain one who vouches for plain ones alone
        c.dueInTurn(c.read("5:199:*>1>2;!>3;>4;!;"), "person(#, 6)", 1, 0, 0, 0, 0);
        // the limits 1 and 0, and no limit behind the last bound
        c.dueInTurn(c.read("4:91:*>1>2;>3;>3;!"), "person(#, 6)", 0, 1, 1, 0);
        c.dueInTurn(c.read("4:90:*>1>2;>3;>3;!"), "person(#, 6)", 0, 0, 0, 0);
        c.dueInTurn(c.read("4:9:*>1>2;>3;>3;!"), "person(#, 6)", 0, 0, 0, 0);
        // who is not in can be taken in
        c.dueInTurn(c.read("3:19:*>1;>2;!"), "person(#, 5)", 1, 0, 0);
        c.dueInTurn(c.read("3:19:*>1;>2;!"), "person(#, 6)", 0, 1, 0);
        c.says("The harm is the sum of the limits of all who are taken in");
        c.due(c.read("4:91:*>1>2;>3;>3;!"), "trust(3)", 2);
        c.due(c.read("4:90:*>1>2;>3;>3;!"), "trust(3)", 0);
        c.due(c.read("4:999:*>1>2;>2;;"), "trust(3)", 0);
        // each counts once, for however many false persons
        c.due(c.read("6:799:*>1>2>3>4>5;!;!;!;!;!"), "trust(3)", 7);
        c.due(c.read("9:99:*>5>8;*>6>8;*>7>8;*>8;*>8;>8;>8;>8;!"), "trust(3)", 72);
    }

    private void ways() {
        c.says("The number of ways to a person who is not a seed is the greatest number of paths along vouches, each from a seed"
                + " to this person, no two of which have a person in common except this one");
        c.due(c.read("2:9:*;"), "person(1, 7)", 0);
        c.due(c.read("2:9:;>0"), "person(0, 7)", 0);
        c.due(c.read("6:0:*>5;*>5;*>5;*>5;*>5;"), "person(5, 7)", 5);
        // as many as there are seeds, however many vouch for the person
        c.due(c.read("7:0:*>1>2>3>4>5;>6;>6;>6;>6;>6;"), "person(6, 7)", 1);
        c.due(c.read("9:0:*>2>3>4;*>5>6>7;>8;>8;>8;>8;>8;>8;"), "person(8, 7)", 2);
        // both must go by person 2
        c.due(c.read("6:0:*>2;*>2;>3>4;>5;>5;"), "person(5, 7)", 1);
        // a seed is a person in common, too
        c.due(c.read("3:0:*>1;*>2;"), "person(2, 7)", 1);
        // the first path must give up person 2 for the other one
        c.due(c.read("8:9:*>2>3;*>4;>6;>5;>6;>7;>7;"), "person(7, 7)", 2);
        c.dueInTurn(c.read("2:9:*>1;*>0"), "person(#, 7)", NONE, NONE);
    }

    private void walks() {
        c.section("WALKS");
        c.says("A random walk begins at a seed, each with the same probability");
        c.dueForEach(c.read("3:0:;*;"), "chance(#, 0, 0)", 0, 0, 2);
        c.due(c.read("3:0:;*;"), "chance(1, 0, 0)", 1);
        for (int seeds = 1; seeds <= 5; seeds++) {
            VouchFlow x = c.read("6:0:" + "*;".repeat(seeds) + ";".repeat(5 - seeds));
            c.dueInTurn(x, "chance(" + (seeds - 1) + ", 0, #)", 1, seeds);
            c.dueInTurn(x, "chance(" + seeds + ", 0, #)", 0, 1);
        }
        c.says("In each step it goes on to one of those for whom the present person vouches, each with the same probability");
        for (int many = 1; many <= 5; many++) {
            VouchFlow x = c.read("7:0:*" + ">1>2>3>4>5".substring(0, 2 * many) + ";;;;;;");
            c.dueInTurn(x, "chance(" + many + ", 1, #)", 1, many);
            c.dueInTurn(x, "chance(" + (many + 1) + ", 1, #)", 0, 1);
            c.dueInTurn(x, "chance(0, 1, #)", 0, 1);
        }
        c.says("if the person vouches for nobody, to one of the seeds, each with the same probability");
        c.dueInTurn(c.read("1:0:*"), "thousandths(0, #)", 1000, 1000, 1000, 1000, 1000);
        c.dueInTurn(c.read("2:0:*>1;"), "thousandths(0, #)", 1000, 0, 1000, 0, 1000);
        c.dueInTurn(c.read("6:0:*>5;*>5;*>5;*>5;*>5;"), "thousandths(0, #)", 200, 0, 200, 0, 200);
        c.says("The chance of a person after k steps (0 to 4) is the probability that the walk is there then");
        c.dueInTurn(c.read("6:0:*>1;>2;>3;>4;>5;"), "thousandths(4, #)", 0, 0, 0, 0, 1000, OUTSIDE);
        c.due(c.read("6:0:*>1;>2;>3;>4;>5;"), "thousandths(4, -1)", OUTSIDE);
        c.says("The order after k steps is by decreasing chances, and for equal chances by increasing numbers");
        // 3/4 and 1/4, and nothing for the others
        c.dueInTurn(c.read("6:0:;;;>2;*>0>3;*>3"), "order(1, #)", 3, 0, 1, 2, 4, 5);
        c.dueInTurn(c.read("5:0:*;*;*;*;*"), "order(4, #)", 0, 1, 2, 3, 4);
        c.dueInTurn(c.read("4:0:;*;;*"), "order(0, #)", 1, 3, 0, 2);
    }

    private void texts() {
        c.section("TEXTS");
        c.says("A circle is written on a page of at most 110 characters, which is empty at first: the number of persons as a digit 1"
                + " to 9, then :, 1 to 5 digits for the bounds, then :, and then the persons in order, with ; between two of them");
        c.due(new VouchFlow(), "count(1)", 0);
        c.due(c.typed(" ".repeat(109)), "letter(32)", 110);
        c.due(c.typed(" ".repeat(110)), "letter(32)", FULL);
        for (String good : new String[] {"1:0:", "9:0:;;;;;;;;", "2:98765:;", "2:0:*;!"}) {
            c.inkIs(c.read(good), good);
        }
        for (String bad : new String[] {"0:0:", ":0:", "1", "1:", "1:0", "1::", "1:123456:", "1;0:", "1:0;", "1:0:;", "2:0:", "2:0:;;",
            "01:0:", "2:0:; ", "2:0:,", "2: 0:;"}) {
            c.due(c.typed(bad), "circle()", STATE);
        }
        c.says("A person is written as * for a seed, ! for a false person, nothing for a plain one, followed, for each person for"
                + " whom this one vouches, in increasing order, by > and the digit of that person");
        VouchFlow x = c.read("9:0:*;!;;;;;;;");
        for (int whom : new int[] {8, 3, 5, 4, 7}) {
            x.vouch(0, whom);
            x.vouch(2, whom == 3 ? 0 : whom);
        }
        c.inkIs(x, "9:0:*>3>4>5>7>8;!;>0>4>5>7>8;;;;;;");
        for (String good : new String[] {"2:0:>1;*>0", "2:0:!>1;>0", "9:0:;;;;;;;;!>0>7", "9:0:>8;;;;;;;;"}) {
            c.inkIs(c.read(good), good);
        }
        for (String bad : new String[] {"2:0:>1*;", "2:0:*!;", "2:0:**;", "2:0:>;", "2:0:1;", "3:0:>1,2;;", "3:0:>12;;", "3:0:>2>1;;",
            "3:0:>1>1;;", "2:0:>2;", "2:0:>0;", "2:0:>>1;", "2:0:+>1;", "2:0:> 1;"}) {
            c.due(c.typed(bad), "circle()", STATE);
        }
    }

    private void errors() {
        c.section("ERRORS");
        c.says("An error is reported by the return value");
        for (int number : new int[] {LEAST, LEAST + 1, -105, -101, -1, 9, 10, 127, 512, MOST - 1, MOST}) {
            for (String call : new String[] {"letter(#)", "about(#)", "trust(#)", "cut(#)", "count(#)", "order(#, 0)"}) {
                c.dueForEach(c.read(CROWD), call, OUTSIDE, number);
                c.dueForEach(c.read(SEEDLESS), call, OUTSIDE, number);
                c.dueForEach(new VouchFlow(), call, OUTSIDE, number);
            }
            for (String call : new String[] {"kind(#, 0)", "as(#, 0)", "vouch(#, 0)", "vouch(0, #)", "recall(#, 0)", "recall(0, #)",
                "person(#, 0)", "vouches(#, 0)", "vouches(0, #)", "without(#, 0, 0)", "without(0, #, 0)", "chance(#, 0, 0)",
                "thousandths(#, 0)", "apart(#)"}) {
                c.dueForEach(c.read(CROWD), call, UNKNOWN, number);
                c.dueForEach(new VouchFlow(), call, UNKNOWN, number);
            }
            for (String call : new String[] {"kind(0, #)", "as(0, #)", "person(0, #)", "without(0, 1, #)", "chance(0, #, 0)",
                "chance(0, 0, #)", "thousandths(0, #)"}) {
                c.dueForEach(c.read(CROWD), call, OUTSIDE, number);
            }
        }
    }

    private void errorOrder() {
        c.says("If several errors apply, the one that comes first in the description of the result is returned");
        VouchFlow none = new VouchFlow();
        c.due(c.typed("~".repeat(110)), "letter(127)", OUTSIDE);
        c.due(c.typed("~".repeat(110)), "letter(31)", OUTSIDE);
        c.due(none, "ink(-1)", STATE);
        c.due(none, "kind(0, 3)", UNKNOWN);
        c.due(none, "as(0, 3)", UNKNOWN);
        c.due(none, "bound(0, 10)", UNKNOWN);
        c.due(none, "about(8)", OUTSIDE);
        c.due(none, "person(0, 8)", UNKNOWN);
        c.due(none, "trust(5)", OUTSIDE);
        c.due(none, "together(512)", STATE);
        c.due(none, "cut(3)", OUTSIDE);
        c.due(none, "without(0, 1, 3)", UNKNOWN);
        c.due(none, "chance(0, 5, 2)", UNKNOWN);
        c.due(none, "thousandths(0, 5)", UNKNOWN);
        c.due(none, "order(5, 9)", OUTSIDE);
        c.due(none, "order(4, 9)", STATE);
        VouchFlow crowd = c.read(CROWD);
        c.due(crowd, "kind(9, 3)", UNKNOWN);
        c.due(crowd, "kind(9, 1)", UNKNOWN);
        c.due(crowd, "as(9, 3)", UNKNOWN);
        c.due(crowd, "vouch(0, 0)", UNKNOWN);
        c.due(crowd, "vouch(0, 9)", UNKNOWN);
        c.due(crowd, "vouch(0, 1)", STATE);
        c.due(crowd, "vouch(0, 6)", FULL);
        c.due(crowd, "recall(0, 0)", UNKNOWN);
        c.due(crowd, "recall(0, 9)", UNKNOWN);
        c.due(crowd, "bound(5, 10)", UNKNOWN);
        c.due(crowd, "person(9, 8)", UNKNOWN);
        c.due(crowd, "without(0, 0, 3)", UNKNOWN);
        c.due(crowd, "without(0, 6, 3)", STATE);
        c.due(crowd, "without(0, 1, 3)", OUTSIDE);
        c.due(crowd, "chance(9, 5, 2)", UNKNOWN);
        c.due(crowd, "thousandths(9, 5)", UNKNOWN);
        c.due(crowd, "order(5, 9)", OUTSIDE);
        VouchFlow seedless = c.read(SEEDLESS);
        c.due(seedless, "chance(3, 0, 0)", UNKNOWN);
        c.due(seedless, "chance(0, 5, 0)", OUTSIDE);
        c.due(seedless, "chance(0, 0, 2)", OUTSIDE);
        c.due(seedless, "thousandths(3, 0)", UNKNOWN);
        c.due(seedless, "thousandths(0, 5)", OUTSIDE);
        c.due(seedless, "order(5, 0)", OUTSIDE);
        c.due(seedless, "order(4, 3)", STATE);
        c.says("all errors are checked before NONE (there is no value) is returned");
        // a plain person can be cast to no other kind, a person without a level has none, a seed has no ways
        c.due(crowd, "as(8, 2)", NONE);
        c.dueForEach(crowd, "as(8, #)", OUTSIDE, 3, -1);
        c.due(none, "ink(0)", STATE);
        c.due(none, "about(6)", STATE);
        c.due(seedless, "about(6)", NONE);
        c.due(none, "generous()", STATE);
        c.due(none, "dearest()", STATE);
        c.due(none, "apart(0)", UNKNOWN);
        c.due(none, "person(0, 7)", UNKNOWN);
        c.due(none, "without(0, 1, 2)", UNKNOWN);
        c.due(crowd, "without(1, 0, 2)", STATE);
    }

    private void errorKinds() {
        c.says("UNKNOWN: a number names nothing that exists (there are no persons without a circle)");
        for (String call : new String[] {"kind(0, 0)", "as(0, 0)", "vouch(0, 1)", "recall(0, 1)", "bound(0, 0)", "person(0, 0)",
            "vouches(0, 1)", "apart(0)", "without(0, 1, 0)", "chance(0, 0, 0)", "thousandths(0, 0)"}) {
            c.due(new VouchFlow(), call, UNKNOWN);
            // a page is no circle yet, and no persons stand on it
            c.due(c.typed("2:99:*>1;"), call, UNKNOWN);
        }
        c.says("OUTSIDE: another argument is out of range");
        VouchFlow x = c.read("2:99:*>1;");
        for (String call : new String[] {"letter(31)", "letter(127)", "kind(0, -1)", "kind(0, 3)", "as(0, -1)", "as(0, 3)", "bound(0, -1)",
            "bound(0, 10)", "about(-1)", "about(8)", "person(0, -1)", "person(0, 8)", "trust(-1)", "trust(5)", "cut(-1)", "cut(3)",
            "without(0, 1, -1)", "without(0, 1, 3)", "chance(0, -1, 0)", "chance(0, 5, 0)", "chance(0, 0, -1)", "chance(0, 0, 2)",
            "thousandths(0, -1)", "thousandths(0, 5)", "order(-1, 0)", "order(5, 0)", "count(-1)", "count(5)"}) {
            c.due(x, call, OUTSIDE);
        }
        c.says("STATE and FULL: as told at the methods");
        for (String call : new String[] {"circle()", "ink(0)", "about(0)", "generous()", "trust(0)", "together(0)", "cut(0)", "dearest()",
            "order(0, 0)"}) {
            c.due(new VouchFlow(), call, STATE);
        }
        for (String call : new String[] {"circle()", "vouch(0, 1)", "recall(1, 0)", "without(1, 0, 0)", "chance(0, 0, 0)",
            "thousandths(0, 0)", "order(0, 0)"}) {
            c.due(c.read(SEEDLESS), call, STATE);
        }
        c.due(c.typed("~".repeat(110)), "letter(126)", FULL);
        c.due(c.read(CROWD), "kind(8, 1)", FULL);
        c.due(c.read(CROWD), "vouch(0, 8)", FULL);
    }

    private void errorsChangeNothing() {
        c.says("A call that returns an error changes nothing");
        String page = "2:34:*>1;!>0";
        for (String call : new String[] {"letter(31)", "letter(127)", "ink(-1)", "kind(-1, 0)", "kind(9, 0)", "kind(0, 3)", "kind(0, -1)",
            "kind(8, 1)", "kind(5, 1)", "as(9, 0)", "as(0, 3)", "vouch(0, 9)", "vouch(9, 0)", "vouch(1, 1)", "vouch(0, 1)", "vouch(0, 8)",
            "recall(0, 9)", "recall(9, 0)", "recall(1, 1)", "recall(0, 8)", "recall(1, 0)", "bound(5, 0)", "bound(-1, 0)", "bound(0, 10)",
            "bound(4, -1)", "about(8)", "person(9, 0)", "person(0, 8)", "vouches(0, 0)", "trust(5)", "together(512)", "cut(3)",
            "apart(9)", "without(0, 0, 0)", "without(1, 0, 0)", "without(0, 1, 3)", "chance(9, 0, 0)", "chance(0, 5, 0)",
            "thousandths(9, 0)", "thousandths(0, 5)", "order(5, 0)", "order(0, 9)", "count(5)"}) {
            // each error three times, for one that leaves something behind might only show it later
            VouchFlow x = c.read(CROWD);
            c.type(x, page);
            for (int i = 0; i < 3; i++) {
                c.due(x, call, error(call));
            }
            c.inkIs(x, CROWD);
            c.dueInTurn(x, "count(#)", 9, page.length(), 1, 0, 0);
            c.due(x, "circle()", 2);
            c.inkIs(x, page);
        }
        pagesChangeNothing();
    }

    /** The error that is due for one of the calls above. */
    private static int error(String call) {
        switch (call) {
            case "kind(8, 1)": case "kind(5, 1)": case "vouch(0, 8)": return FULL;
            case "vouch(0, 1)": case "recall(0, 8)": case "recall(1, 0)": case "without(1, 0, 0)": return STATE;
            case "letter(31)": case "letter(127)": case "kind(0, 3)": case "kind(0, -1)": case "as(0, 3)": case "bound(0, 10)":
            case "bound(4, -1)": case "about(8)": case "person(0, 8)": case "trust(5)": case "cut(3)": case "without(0, 1, 3)":
            case "chance(0, 5, 0)": case "thousandths(0, 5)": case "order(5, 0)": case "count(5)": return OUTSIDE;
            default: return UNKNOWN;
        }
    }

    private void pagesChangeNothing() {
        // a full page that is nearly a circle, and a circle that stands
        String nearly = "9:1234:*>1>2>3>4>5;*>0>2>3>4>5;*>0>1>3>4>5;*>0>1>2>4>5;*>0>1>2>3>5;>0>1>2>3>4;>0>1>2>3>4;>0>1>2>3>4;>0>1>2>3>>";
        VouchFlow x = c.read(ORDINARY);
        c.type(x, nearly);
        c.due(x, "letter(59)", FULL);
        c.due(x, "circle()", STATE);
        c.due(x, "circle()", STATE);
        c.due(x, "fault()", 109);
        c.inkIs(x, ORDINARY);
        c.due(x, "blank()", 110);
        x = new VouchFlow();
        c.due(x, "circle()", STATE);
        c.dueInTurn(x, "count(#)", 0, 0, 0, 0, 0);
    }

    private void constants() {
        c.says("Sets are bit masks: bit k for person k");
        for (int person = 0; person < 9; person++) {
            String alone = "9:1:" + ";".repeat(person) + "*" + ";".repeat(8 - person);
            for (int k = 0; k < 9; k++) {
                c.due(c.read(alone), "together(" + (1 << k) + ")", k == person ? 1 : 0);
            }
            c.due(c.read(alone), "cut(2)", 1 << person);
            c.due(c.read(alone.replace(":1:", ":0:")), "cut(1)", 1 << person);
            int other = person == 8 ? 0 : 8;
            c.due(c.read(alone.replace("*", "*>" + other)), "apart(" + other + ")", 1 << person);
        }
        c.says("`NONE = -1, UNKNOWN = -101, OUTSIDE = -102, STATE = -103, FULL = -104`: NONE: there is no value");
        c.note("NONE", VouchFlow.NONE, -1);
        c.due(c.read("1:0:"), "about(6)", -1);
        c.says("The others are error codes");
        c.note("UNKNOWN", VouchFlow.UNKNOWN, -101);
        c.note("OUTSIDE", VouchFlow.OUTSIDE, -102);
        c.note("STATE", VouchFlow.STATE, -103);
        c.note("FULL", VouchFlow.FULL, -104);
        c.due(new VouchFlow(), "person(0, 0)", -101);
        c.due(new VouchFlow(), "count(5)", -102);
        c.due(new VouchFlow(), "circle()", -103);
        c.due(c.read(CROWD), "kind(8, 1)", -104);
        c.says("The constructor and the methods follow, a promise each: the signature, then what it does");
        c.note("constructors", VouchFlow.class.getConstructors().length, 1);
        long methods = Arrays.stream(VouchFlow.class.getMethods())
                .filter(m -> m.getDeclaringClass() == VouchFlow.class).count();
        c.note("methods", methods, 25);
    }
}
