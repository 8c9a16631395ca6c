/** The promises of the document one by one: ordinary calls, the edges that it names, and wrong arguments. */
public final class PromisesTest {
    private static final int MOVE = Suits.MOVE;
    private static final int GIFT = Suits.GIFT;
    private static final int WISH = Suits.WISH;
    private static final int STOP = Suits.STOP;
    private static final int LOW = Suits.LOW;
    private static final int HIGH = Suits.HIGH;

    public static void main(String[] args) {
        newObject();
        feedAndEnd();
        textNumbersAndLimits();
        textFaultsOfSigns();
        textFaultsOfNumbers();
        textFaultsOfDepth();
        textFaultsOfCounts();
        textFaultsOfClauses();
        tests();
        openAndForce();
        holdsAndFirst();
        may();
        afterAndTurned();
        searchFound();
        searchNoneLeads();
        searchSpent();
        searchAsThingsAre();
        reached();
        fewest();
        least();
        safe();
        keys();
        last();
        rolls();
        judgedAndWhatFollows();
        words();
        marks();
        counts();
        Due.close();
    }

    private static void newObject() {
        FeignedSuit x = new FeignedSuit();
        for (int what = 0; what <= 5; what++) {
            Due.is("count(" + what + ") of a new object", x.count(what), 0);
        }
        for (int what = 0; what <= 2; what++) {
            Due.is("sought(" + what + ") ahead of any search", x.sought(what), 0);
        }
        Due.is("sought(3) ahead of any search", x.sought(3), -1);
        Due.is("go ahead of any search", x.go(1), -1);
        Due.is("row ahead of any search", x.row(0), -1);
        Due.is("met ahead of any search", x.met(0), -1);
        Due.is("force of a new object", x.force(0), 0);
        Due.is("holds of a new object", x.holds(0, -1), -1);
        Due.is("first of a new object", x.first(0), -1);
        Due.is("wished of a new object", x.wished(0, 0), -1);
        Due.is("judged of a new object", x.judged(0, 0), -1);
        Due.is("back of a new object", x.back(0), -1);
        Due.is("NONE", FeignedSuit.NONE, -1);
    }

    private static void feedAndEnd() {
        FeignedSuit x = new FeignedSuit();
        for (int i = 1; i <= 20; i++) {
            Due.is("feed " + i, x.feed(-1, HIGH, LOW, 0, 1), 20 * i);
        }
        Due.is("feed beyond 400", x.feed(0, 0, 0, 0, 0), -1);
        Due.is("tape after a feed that was refused", x.count(5), 400);
        Due.is("end(401)", x.end(401), -1);
        Due.is("end(-1)", x.end(-1), -1);
        Due.is("end(low)", x.end(LOW), -1);
        Due.is("end(400)", x.end(400), 400);
        Due.is("end(381)", x.end(381), 381);
        Due.is("feed from 381", x.feed(0, 0, 0, 0, 0), -1);
        Due.is("end(380)", x.end(380), 380);
        Due.is("feed from 380", x.feed(0, 0, 0, 0, 0), 400);
        Due.is("end(0)", x.end(0), 0);
        Due.is("end(1) of an empty tape", x.end(1), -1);
        // "X and not A": the highest byte of each number comes first.
        Due.is("feed", x.feed(0x5820616E, 0x64206E6F, 0x74204100, 0, 0), 20);
        Due.is("end", x.end(11), 11);
        Due.is("text", x.text(WISH), 0);
        Due.is("wished", x.wished(0, 1 << 23), 1);
        Due.is("wished", x.wished(0, 1 << 23 | 1), 0);
    }

    private static void textNumbersAndLimits() {
        int[] most = {40, 8, 16, 8};
        String[] texts = {"give A", "have A", "A", "A"};
        FeignedSuit x = new FeignedSuit();
        for (int sort = 0; sort < 4; sort++) {
            for (int i = 0; i < most[sort]; i++) {
                Due.is("text " + i + " of sort " + sort, Told.tell(x, sort, texts[sort]), i);
            }
            Due.is("a text too many of sort " + sort, Told.tell(x, sort, texts[sort]), -1);
            Due.is("the tape then", x.count(5), texts[sort].length());
            Due.is("how many then", x.count(sort), most[sort]);
            x.end(0);
            Due.is("a text too many with a fault", x.text(sort), -1);
        }
        Due.is("force of all", x.force(255), 0);
        Due.is("force of more", x.force(256), -1);
        x.feed(0, 0, 0, 0, 0);
        for (int sort : new int[] {-1, 4, LOW, HIGH}) {
            Due.is("text(" + sort + ")", x.text(sort), -1);
            Due.is("the tape then", x.count(5), 20);
        }
    }

    private static void textFaultsOfSigns() {
        for (int sort = 0; sort < 4; sort++) {
            Told.faulty(sort, "", 0, 0);
            Told.faulty(sort, "   ", 3, 0);
            Told.faulty(sort, "\t", 0, 0);
            Told.faulty(sort, "@", 0, 0);
            Told.faulty(sort, "\u00ff", 0, 0);
            Told.faulty(sort, "[", sort < 2 ? 0 : 1, 0);
        }
        Told.faulty(MOVE, "need", 4, 0);
        Told.faulty(MOVE, "need   ", 7, 0);
        Told.faulty(MOVE, " needof A", 1, 0);
        Told.faulty(MOVE, "Need A", 0, 0);
        Told.faulty(MOVE, "need Y", 5, 0);
        Told.faulty(MOVE, "need A B", 7, 0);
        Told.faulty(MOVE, "need A;", 7, 0);
        Told.faulty(MOVE, "need A;;", 7, 0);
        Told.faulty(MOVE, "need A ; have B", 9, 0);
        Told.faulty(MOVE, "need A or", 9, 0);
        Told.faulty(MOVE, "need A ors B", 7, 0);
        Told.faulty(MOVE, "need A if B", 7, 0);
        Told.faulty(MOVE, "need A]", 6, 0);
        Told.faulty(MOVE, "need [A;give B", 7, 0);
        Told.faulty(MOVE, "need [A", 7, 0);
        Told.faulty(MOVE, "need []", 6, 0);
        Told.faulty(MOVE, "need or A", 5, 0);
        Told.faulty(MOVE, "need not and", 9, 0);
        Told.faulty(MOVE, "need of > 1", 8, 0);
        Told.faulty(MOVE, "need of A B 1", 12, 0);
        Told.faulty(MOVE, "need of A < = 1", 12, 0);
        Told.faulty(MOVE, "need of A == 1", 11, 0);
        Told.faulty(MOVE, "need of A => 1", 11, 0);
        Told.faulty(MOVE, "need of A > B", 12, 0);
        Told.faulty(MOVE, "need of A >", 11, 0);
        Told.faulty(MOVE, "give", 4, 0);
        Told.faulty(MOVE, "give A and B", 7, 0);
        Told.faulty(MOVE, "give AbC", 6, 0);
        Told.faulty(MOVE, "end 1", 4, 0);
        Told.faulty(MOVE, "turn 5 A", 7, 0);
        Told.faulty(MOVE, "turn 5 if", 9, 0);
        Told.faulty(MOVE, "turn if A", 5, 0);
        Told.faulty(GIFT, "have A or B", 7, 0);
        Told.faulty(GIFT, "need A", 0, 0);
        Told.faulty(GIFT, "stop", 4, 0);
        Told.faulty(WISH, "A;", 1, 0);
        Told.faulty(WISH, "A\0", 1, 0);
        Told.faulty(STOP, "need A", 0, 0);
        Told.good(MOVE, "needA;giveBC D;endX;days0;fee 9999 ; lend15;turn0if not A");
        Told.faulty(MOVE, "turn0ifnot A", 5, 0);
        Told.good(WISH, "  [A]and not[B or of A B C>=3]or X  ");
        Told.good(GIFT, "have A;stop A;have A;stop B");
        Told.good(GIFT, "stop of A<0");
    }

    private static void textFaultsOfNumbers() {
        Told.faulty(MOVE, "days", 4, 0);
        Told.faulty(MOVE, "days A", 5, 0);
        Told.faulty(MOVE, "days -1", 5, 0);
        Told.faulty(MOVE, "days 1000", 5, 1);
        Told.faulty(MOVE, "days   000001", 7, 1);
        Told.faulty(MOVE, "days 999999999999999999999", 5, 1);
        Told.faulty(MOVE, "days 4294967296", 5, 1);
        Told.faulty(MOVE, "days 1 2", 7, 0);
        Told.faulty(MOVE, "fee 10000", 4, 1);
        Told.faulty(MOVE, "lend 16", 5, 1);
        Told.faulty(MOVE, "turn 16", 5, 1);
        Told.faulty(MOVE, "turn 16 if", 5, 1);
        Told.faulty(WISH, "of A = 25", 7, 1);
        Told.faulty(WISH, "of A = 000024", 7, 1);
        Told.faulty(WISH, "of A = 25 and Y", 7, 1);
        Told.good(MOVE, "days 00999;fee 9999;lend 00015;turn 15");
        Told.good(WISH, "of A = 00024");
    }

    private static void textFaultsOfDepth() {
        Told.good(WISH, "[[[[[[[[[[A]]]]]]]]]]");
        Told.good(WISH, "not not not not not not not not not not A");
        Told.good(WISH, "not [not [not [not [not [A]]]]]");
        Told.good(WISH, "[[[[[[[[[not A]]]]]]]]] and [[[[[[[[[[B]]]]]]]]]] or not [[[[[[[[[C]]]]]]]]]");
        Told.good(WISH, "[not not not not not not not not not A and not not not not not not not not not B]");
        Told.faulty(WISH, "[[[[[[[[[[[A]]]]]]]]]]]", 10, 2);
        Told.faulty(WISH, "[[[[[[[[[[not A", 10, 2);
        Told.faulty(WISH, "not not not not not not not not not not not A", 40, 2);
        Told.faulty(WISH, "not not not not not not not not not not [A]", 40, 2);
        Told.faulty(WISH, "[not not not not not not not not not A and [not not not not not not not not not A]]", 76, 2);
        Told.faulty(WISH, "[[[[[[[[[[nota", 10, 0);
        Told.faulty(MOVE, "turn 1 if [[[[[[[[[[[", 20, 2);
        Told.good(MOVE, "need [[[[[[[[[[A]]]]]]]]]];turn 1 if [[[[[[[[[[A]]]]]]]]]]");
    }

    private static void textFaultsOfCounts() {
        String sixty = Suits.repeated("A", 60, "or ");
        Told.good(WISH, sixty);
        Told.faulty(WISH, sixty + "or B", sixty.length() + 3, 3);
        Told.faulty(WISH, sixty + "or of", sixty.length() + 3, 3);
        Told.faulty(WISH, sixty + "or not B", sixty.length() + 7, 3);
        Told.faulty(WISH, sixty + "or [[ B", sixty.length() + 6, 3);
        Told.faulty(WISH, sixty + "or Y", sixty.length() + 3, 0);
        Told.faulty(WISH, sixty + "or ofA", sixty.length() + 3, 3);
        Told.faulty(WISH, sixty + "or off", sixty.length() + 3, 0);
        Told.faulty(WISH, sixty + "or", sixty.length() + 2, 0);
        String thirty = Suits.repeated("A", 30, "or ");
        Told.good(MOVE, "need " + thirty + ";turn 1 if " + thirty + ";give ABCDE");
        Told.faulty(MOVE, "need " + thirty + ";turn 1 if " + thirty + ";give ABCDE;need A", 5 + 2 * thirty.length() + 11 + 12 + 5, 3);
        String ofs = Suits.repeated("of A=1", 36, "or ");
        Told.good(GIFT, "stop " + ofs + ";have ABC");
    }

    private static void textFaultsOfClauses() {
        String twelve = Suits.repeated("give A", 12, ";");
        Told.good(MOVE, twelve);
        Told.faulty(MOVE, twelve + ";", 84, 0);
        Told.faulty(MOVE, twelve + ";give", 84, 4);
        Told.faulty(MOVE, twelve + "; fee 1", 85, 4);
        Told.faulty(MOVE, twelve + ";giv A", 84, 0);
        Told.faulty(MOVE, twelve + ";have A", 84, 0);
        Told.good(GIFT, Suits.repeated("have A;stop B", 6, ";"));
        Told.faulty(GIFT, Suits.repeated("have A;stop B", 6, ";") + ";stop C", 84, 4);
        Told.faulty(MOVE, "days 1;days 1", 7, 4);
        Told.faulty(MOVE, "fee 1;give A; fee x", 14, 4);
        Told.faulty(MOVE, "days 1;fee 1;days", 13, 4);
        Told.good(MOVE, "lend 1;lend 1;turn 1;turn 1;need A;need B;end A;end B;give A;give B;days 1;fee 1");
    }

    private static void tests() {
        Told.holdsOf("A or B and C", 1, 1);
        Told.holdsOf("A or B and C", 2, 0);
        Told.holdsOf("A or B and C", 6, 1);
        Told.holdsOf("A and B or C", 4, 1);
        Told.holdsOf("[A or B] and C", 1, 0);
        Told.holdsOf("not A and B", 2, 1);
        Told.holdsOf("not A or B", 3, 1);
        Told.holdsOf("not [A or B]", 2, 0);
        Told.holdsOf("not not A", 1, 1);
        Told.holdsOf("not [not A and not B] and C", 5, 1);
        Told.holdsOf("not [not A and not B] and C", 4, 0);
        Told.holdsOf("of AAB = 1", 1, 1);
        Told.holdsOf("of AAB = 2", 1, 0);
        Told.holdsOf("of A < 0", 0, 0);
        Told.holdsOf("of A <= 0", 0, 1);
        Told.holdsOf("of A <= 0", 1, 0);
        Told.holdsOf("of AB < 2", 1, 1);
        Told.holdsOf("of AB < 2", 3, 0);
        Told.holdsOf("of AB > 1", 3, 1);
        Told.holdsOf("of AB > 1", 1, 0);
        Told.holdsOf("of AB >= 1", 2, 1);
        Told.holdsOf("of AB >= 1", 4, 0);
        Told.holdsOf("of AB >= 0", 0, 1);
        Told.holdsOf("of A > 24", 1, 0);
        Told.holdsOf("of ABCDEFGHIJKLMNOPQRSTUVWX = 24", 16777215, 1);
        Told.holdsOf("A or B or C and not C or D", 8, 1);
        Told.holdsOf("A", -1, -1);
        Told.holdsOf("A", 16777216, -1);
        FeignedSuit x = new FeignedSuit();
        Told.tell(x, WISH, "A");
        for (int wish : new int[] {-1, 1, 16, LOW, HIGH}) {
            Due.is("wished(" + wish + ", 0)", x.wished(wish, 0), -1);
        }
    }

    private static void openAndForce() {
        FeignedSuit x = Suits.suit(new String[] {"give A"}, "stop X", "A");
        Due.is("open in all years", x.may(0, 2999, 0, 0), 1);
        Due.is("open", x.open(0, 10, 10), true);
        Due.is("ahead of it", x.may(0, 9, 0, 0), 0);
        Due.is("in it", x.may(0, 10, 0, 0), 1);
        Due.is("behind it", x.may(0, 11, 0, 0), 0);
        int[][] bad = {{0, 11, 10}, {1, 0, 1}, {-1, 0, 1}, {0, -1, 5}, {0, 5, 3000}, {0, LOW, HIGH}, {40, 0, 0}};
        for (int[] b : bad) {
            Due.is("open with wrong arguments", x.open(b[0], b[1], b[2]), false);
        }
        Due.is("still in it", x.may(0, 10, 0, 0), 1);
        Due.is("still not behind it", x.may(0, 11, 0, 0), 0);
        Due.is("open", x.open(0, 0, 2999), true);
        Due.is("force of a stop that is not there", x.force(1), -1);
        Due.is("a stop", Told.tell(x, STOP, "A"), 0);
        Due.is("told is not in force", x.may(0, 0, 0, 0), 1);
        Due.is("force", x.force(1), 0);
        Due.is("in force", x.may(0, 0, 0, 0), 0);
        for (int set : new int[] {2, 3, -1, LOW, HIGH}) {
            Due.is("force(" + set + ")", x.force(set), -1);
        }
        Due.is("still in force", x.may(0, 0, 0, 0), 0);
        Due.is("force", x.force(0), 1);
    }

    private static void holdsAndFirst() {
        FeignedSuit x = new FeignedSuit();
        Due.is("holds", x.holds(23, 15), -1);
        Due.is("holds", x.holds(23, 0), 15);
        int[][] bad = {{-1, 0}, {24, 0}, {23, -2}, {23, 16}, {LOW, LOW}, {HIGH, HIGH}};
        for (int[] b : bad) {
            Due.is("holds with wrong arguments", x.holds(b[0], b[1]), -2);
        }
        Due.is("holds", x.holds(23, -1), 0);
        Due.is("holds", x.holds(23, 3), -1);
        Due.is("a gift", Told.tell(x, GIFT, "have AC;stop A;have CX"), 0);
        Due.is("a gift of nothing", Told.tell(x, GIFT, "stop A"), 1);
        Due.is("first", x.first(0), 1 | 4 | 1 << 23);
        Due.is("first of nothing", x.first(1), 0);
        for (int gift : new int[] {-1, 2, 8, LOW, HIGH}) {
            Due.is("first(" + gift + ")", x.first(gift), -1);
        }
    }

    private static void may() {
        FeignedSuit x = Suits.suit(new String[] {"need A;need B;give C", "end D;give C", "end A;give A"},
                "have D;stop C and D;stop E and C", "A");
        Due.is("all needs", x.may(0, 0, 0, 3), 1);
        Due.is("one need", x.may(0, 0, 0, 1), 0);
        Due.is("other need", x.may(0, 0, 0, 2), 0);
        Due.is("the same state", x.may(0, 0, 0, 7), 0);
        Due.is("stopped by the gift", x.may(0, 0, 0, 11), 0);
        Due.is("stopped by its other stop", x.may(0, 0, 0, 19), 0);
        Due.is("a stop of the state ahead does not count", x.may(0, 0, 1, 8), 1);
        Due.is("the state ahead is stopped, the one behind not", x.may(0, 0, 1, 12), 1);
        Due.is("what is ended and given is given", x.may(0, 0, 2, 0), 1);
        Due.is("ended and given again is the same", x.may(0, 0, 2, 1), 0);
        Due.is("a gift without stops", Told.tell(x, GIFT, "have A"), 1);
        Due.is("by another gift", x.may(1, 0, 0, 11), 1);
        int[][] bad = {{2, 0, 0, 0}, {-1, 0, 0, 0}, {0, -1, 0, 0}, {0, 3000, 0, 0}, {0, 0, -1, 0}, {0, 0, 3, 0},
            {0, 0, 0, -1}, {0, 0, 0, 16777216}, {LOW, LOW, LOW, LOW}, {HIGH, HIGH, HIGH, HIGH}};
        for (int[] b : bad) {
            Due.is("may with wrong arguments", x.may(b[0], b[1], b[2], b[3]), -1);
        }
    }

    private static void afterAndTurned() {
        FeignedSuit x = Suits.suit(new String[] {"need X;end AB;give BC;turn 0;turn 15 if A;turn 3 if B or not C;turn 15 if D",
            "days 5"}, "have A", "A");
        Due.is("after, may it be made or not", x.after(0, 3), 6);
        Due.is("after the end", x.after(0, 16777215), 16777214);
        Due.is("after nothing", x.after(1, 5), 5);
        Due.is("turned", x.turned(0, 1), 1 | 1 << 15 | 8);
        Due.is("turned", x.turned(0, 4), 1);
        Due.is("turned", x.turned(0, 6), 9);
        Due.is("turned by the other clause", x.turned(0, 12), 1 | 1 << 15);
        Due.is("turned by nobody", x.turned(1, 1), 0);
        int[][] bad = {{-1, 0}, {2, 0}, {0, -1}, {0, 16777216}, {LOW, LOW}, {HIGH, HIGH}};
        for (int[] b : bad) {
            Due.is("after with wrong arguments", x.after(b[0], b[1]), -1);
            Due.is("turned with wrong arguments", x.turned(b[0], b[1]), -1);
        }
    }

    private static void searchFound() {
        FeignedSuit x = Suits.suit(new String[] {"need A;give B", "need A;give C", "need B and not C;give D",
            "need B;give C", "need D;give E"}, "have A", "C and D");
        Due.is("search", x.search(0, 0, 0, -1), true);
        Due.is("go", x.go(2), 2);
        // 1; 3 by B, 5 by C; then from 3: 7 by move 1, 11 by move 2; move 3 gives 7 again.
        int[] states = {1, 3, 5, 7, 11};
        for (int k = 0; k < states.length; k++) {
            Due.is("met(" + k + ")", x.met(k), states[k]);
        }
        Due.is("met(5)", x.met(5), -1);
        Due.is("goes", x.sought(0), 1);
        Due.is("no row yet", x.row(0), -1);
        Due.is("go", x.go(4000), 3);
        Due.is("found", x.sought(0), 2);
        // The state in which it is found counts as gone through, and its later moves are not looked at.
        Due.is("gone through", x.sought(2), 5);
        Due.is("states met", x.sought(1), 6);
        Due.is("the last one", x.met(5), 15);
        Due.is("row", x.sought(3), 3);
        int[] row = {0, 2, 1, -1};
        for (int k = 0; k < row.length; k++) {
            Due.is("row(" + k + ")", x.row(k), row[k]);
        }
        Due.is("row(-1)", x.row(-1), -1);
        Due.is("row(low)", x.row(LOW), -1);
        Due.is("row(high)", x.row(HIGH), -1);
        Due.is("met(-1)", x.met(-1), -1);
        Due.is("met(high)", x.met(HIGH), -1);
        Due.is("go further", x.go(1), 0);
        Due.is("sought(4)", x.sought(4), -1);
        Due.is("sought(-1)", x.sought(-1), -1);
        int[][] bad = {{1, 0, 0, 0}, {0, 1, 0, 0}, {0, 0, -1, 0}, {0, 0, 3000, 0}, {0, 0, 0, -2}, {0, 0, 0, 16777216},
            {-1, 0, 0, 0}, {0, -1, 0, 0}, {HIGH, HIGH, HIGH, HIGH}, {LOW, LOW, LOW, LOW}};
        for (int[] b : bad) {
            Due.is("search with wrong arguments", x.search(b[0], b[1], b[2], b[3]), false);
        }
        Due.is("still found", x.sought(0), 2);
        Due.is("search from a state that is as wished", x.search(0, 0, 0, 12), true);
        Due.is("found at once", x.sought(0), 2);
        Due.is("an empty row", x.sought(3), 0);
        Due.is("one met", x.sought(1), 1);
        Due.is("none gone through", x.sought(2), 0);
        Due.is("go when found", x.go(3), 0);
    }

    private static void searchNoneLeads() {
        FeignedSuit x = Suits.suit(new String[] {"need A;give B"}, "have A;stop A", "X");
        Due.is("search", x.search(0, 0, 0, -1), true);
        Due.is("the first state is met though stopped", x.met(0), 1);
        for (int n : new int[] {0, -1, 4001, LOW, HIGH}) {
            Due.is("go(" + n + ")", x.go(n), -1);
        }
        Due.is("go", x.go(4000), 1);
        Due.is("none leads", x.sought(0), 3);
        Due.is("a move that leads", Told.tell(x, MOVE, "end A;give X"), 1);
        Due.is("it stays", x.go(1), 0);
        Due.is("it stays", x.sought(0), 3);
        Due.is("no row", x.sought(3), -1);
        Due.is("a new search", x.search(0, 0, 0, -1), true);
        Due.is("go", x.go(1), 1);
        Due.is("found", x.sought(0), 2);
    }

    private static void searchSpent() {
        FeignedSuit x = Suits.wide(12, "of ABCDEFGHIJKL > 11");
        Due.is("search", x.search(0, 0, 0, -1), true);
        int gone = x.go(4000);
        Due.is("spent", x.sought(0), 4);
        Due.is("gone through", x.sought(2), gone);
        Due.is("met", x.sought(1), 4000);
        Due.is("no row", x.sought(3), -1);
        Due.is("go when spent", x.go(1), 0);
        Due.is("met(3999) is there", x.met(3999) >= 0, true);
        Due.is("met(4000)", x.met(4000), -1);
        FeignedSuit y = Suits.wide(11, "of ABCDEFGHIJK > 10");
        Due.is("search", y.search(0, 0, 0, -1), true);
        // All but the last one: it is met from the first with ten rights.
        Due.is("go by one", y.go(1), 1);
        Due.is("met by one", y.sought(1), 12);
        y.go(4000);
        Due.is("found", y.sought(0), 2);
        Due.is("row", y.sought(3), 11);
        Due.is("met in all", y.sought(1), 2048);
    }

    private static void searchAsThingsAre() {
        FeignedSuit x = Suits.suit(new String[] {"need A;give B", "need B;give C", "need C;give D"}, "have A", "D");
        Due.is("a stop", Told.tell(x, STOP, "C"), 0);
        Due.is("search", x.search(0, 0, 7, -1), true);
        Due.is("go", x.go(1), 1);
        Due.is("force", x.force(1), 0);
        Due.is("go by a stop", x.go(1), 1);
        Due.is("stopped", x.sought(0), 3);
        Due.is("force", x.force(0), 1);
        Due.is("search", x.search(0, 0, 7, -1), true);
        Due.is("go", x.go(2), 2);
        Due.is("open", x.open(2, 8, 9), true);
        Due.is("go by years", x.go(1), 1);
        Due.is("shut", x.sought(0), 3);
    }

    private static void reached() {
        FeignedSuit x = Suits.wide(9, "of ABCDEFGHI > 8");
        // 512 states, and the one that is as wished is the last of them.
        Due.is("spent", x.reached(0, 0, 0), 4);
        Due.is("a wish nearer", Told.tell(x, WISH, "of ABCDEFGHI > 4"), 1);
        Due.is("found", x.reached(0, 1, 0), 2);
        Due.is("a wish that never is", Told.tell(x, WISH, "M"), 2);
        Due.is("shut", x.open(8, 5, 5), true);
        Due.is("256 states", x.reached(0, 2, 0), 3);
        Due.is("512 states", x.reached(0, 2, 5), 4);
        Due.is("a wish that is there", Told.tell(x, WISH, "X"), 3);
        Due.is("found at once", x.reached(0, 3, 5), 2);
        int[][] bad = {{1, 0, 0}, {-1, 0, 0}, {0, 4, 0}, {0, -1, 0}, {0, 0, -1}, {0, 0, 3000}, {LOW, LOW, LOW},
            {HIGH, HIGH, HIGH}};
        for (int[] b : bad) {
            Due.is("reached with wrong arguments", x.reached(b[0], b[1], b[2]), -1);
            Due.is("keys with wrong arguments", x.keys(b[0], b[1], b[2]), -1);
            Due.is("fewest with wrong arguments", x.fewest(b[0], b[1], b[2], 0), -1);
            Due.is("least with wrong arguments", x.least(b[0], b[1], b[2], 0), -1);
            Due.is("safe with wrong arguments", x.safe(b[0], b[1], b[2], 0), -1);
            Due.is("words with wrong arguments", x.words(b[0], b[1], b[2], 0, 0), -1);
            Due.is("last with wrong arguments", x.last(b[0], b[1], b[2], b[2]), -1);
        }
        Due.is("no search by it", x.sought(0), 0);
    }

    private static void fewest() {
        FeignedSuit x = Suits.suit(new String[] {"give A;lend 9", "need A;give C;lend 0", "give B;lend 4;lend 5",
            "need B;give C", "give D;lend 15"}, "have X", "C");
        Due.is("how many", x.fewest(0, 0, 0, 0), 2);
        Due.is("of two sets the least as a number", x.fewest(0, 0, 0, 1), 1 << 4 | 1 << 5);
        x.open(3, 1, 1);
        Due.is("in another year", x.fewest(0, 0, 0, 1), 1 << 9 | 1);
        x.open(1, 1, 1);
        Due.is("none", x.fewest(0, 0, 0, 0), -2);
        Due.is("none", x.fewest(0, 0, 0, 1), -2);
        Due.is("what 2", x.fewest(0, 0, 0, 2), -1);
        Due.is("what -1", x.fewest(0, 0, 0, -1), -1);
        Due.is("a move", Told.tell(x, MOVE, "lend 1;lend 2;lend 3;lend 6;lend 7"), 5);
        Due.is("ten lend", x.fewest(0, 0, 1, 0), 2);
        Due.is("a move that is shut", Told.tell(x, MOVE, "lend 8"), 6);
        x.open(6, 9, 9);
        Due.is("eleven lend", x.fewest(0, 0, 1, 0), -3);
        Due.is("eleven lend", x.fewest(0, 0, 1, 1), -3);
        FeignedSuit y = Suits.wide(10, "of ABCDEFGHIJ > 6");
        // By all names it is spent, and by fewer names there are too few rights.
        Due.is("spent does not suffice", y.reached(0, 0, 0), 4);
        Due.is("three names give seven rights or eight", y.fewest(0, 0, 0, 0), 3);
        Due.is("the least set", y.fewest(0, 0, 0, 1), 7);
    }

    private static void least() {
        FeignedSuit x = Suits.suit(new String[] {"give C;fee 100;days 1", "give A;fee 30;days 20",
            "need A;give C;fee 60;days 10", "need A and C;give D"}, "have X", "C");
        Due.is("fees", x.least(0, 0, 0, 0), 90);
        Due.is("days", x.least(0, 0, 0, 1), 1);
        Due.is("what 2", x.least(0, 0, 0, 2), -1);
        Due.is("what -1", x.least(0, 0, 0, -1), -1);
        x.open(2, 5, 5);
        Due.is("fees in another year", x.least(0, 0, 0, 0), 100);
        x.open(0, 5, 5);
        Due.is("none", x.least(0, 0, 0, 0), -2);
        Due.is("a wish that is there", Told.tell(x, WISH, "X"), 1);
        Due.is("nothing to pay", x.least(0, 1, 0, 0), 0);
        FeignedSuit y = Suits.wide(9, "X");
        Due.is("512 states, though the first one is as wished", y.least(0, 0, 0, 0), -3);
        Due.is("a stop", Told.tell(y, STOP, "of ABCDEFGHI > 6"), 0);
        // 512 less 36, 9 and 1.
        y.force(1);
        Due.is("466 states", y.least(0, 0, 0, 0), 0);
    }

    private static void safe() {
        FeignedSuit x = Suits.suit(new String[] {"give C;turn 3", "give A;turn 1 if not B", "give B",
            "need A;give C;turn 2 if not B"}, "have X", "C");
        Due.is("nobody trusted: B, A, C", x.safe(0, 0, 0, 0), 3);
        Due.is("one trusted", x.safe(0, 0, 0, 8), 1);
        Due.is("others trusted", x.safe(0, 0, 0, 6), 2);
        Due.is("all trusted", x.safe(0, 0, 0, 65535), 1);
        Due.is("trusted 65536", x.safe(0, 0, 0, 65536), -1);
        Due.is("trusted -1", x.safe(0, 0, 0, -1), -1);
        x.open(2, 5, 5);
        Due.is("none", x.safe(0, 0, 0, 0), -2);
        FeignedSuit y = Suits.wide(9, "K");
        Due.is("a move that all may turn at", Told.tell(y, MOVE, "give K;turn 7"), 9);
        Due.is("found ahead of the 501st", y.safe(0, 0, 0, 128), 1);
        Due.is("spent", y.safe(0, 0, 0, 0), -3);
        Due.is("trust is for that call alone", y.reached(0, 0, 0), 2);
        Due.is("and no matter for keys", y.keys(0, 0, 0), 0);
    }

    private static void keys() {
        FeignedSuit x = Suits.suit(new String[] {"give A", "need A;give B", "need A;give D", "need B or D;give C", "give E"},
                "have X", "C");
        Due.is("two of five", x.keys(0, 0, 0), 1 | 8);
        x.open(2, 5, 5);
        Due.is("three of five", x.keys(0, 0, 0), 1 | 2 | 8);
        x.open(1, 5, 5);
        Due.is("all, if it is not reached at all", x.keys(0, 0, 0), 31);
        FeignedSuit z = Suits.wide(9, "K");
        Due.is("spent with all, and not without any one", z.reached(0, 0, 0), 4);
        Due.is("each of them then", z.keys(0, 0, 0), 511);
        FeignedSuit y = Suits.wide(10, "K");
        Due.is("none, if spent", y.keys(0, 0, 0), 0);
        for (int i = 10; i < 40; i++) {
            Told.tell(y, MOVE, i == 39 ? "give K" : "turn 1");
        }
        Due.is("the fortieth", y.keys(0, 0, 0), 0);
        y.force(0);
        for (int i = 0; i < 10; i++) {
            y.open(i, 5, 5);
        }
        Due.is("the fortieth", y.keys(0, 0, 0), 1L << 39);
    }

    private static void last() {
        FeignedSuit x = Suits.suit(new String[] {"give C", "give C"}, "have X", "C");
        x.open(0, 0, 20);
        x.open(1, 25, 2999);
        Due.is("the first year without", x.last(0, 0, 0, 99), 21);
        Due.is("one year", x.last(0, 0, 24, 24), 24);
        Due.is("none of these", x.last(0, 0, 25, 124), -2);
        Due.is("100 years to the end", x.last(0, 0, 2900, 2999), -2);
        int[][] bad = {{0, 100}, {5, 4}, {-1, 5}, {2999, 3000}, {3000, 3000}, {LOW, HIGH}, {HIGH, LOW}};
        for (int[] b : bad) {
            Due.is("last(.., " + b[0] + ", " + b[1] + ")", x.last(0, 0, b[0], b[1]), -1);
        }
        FeignedSuit y = Suits.wide(10, "K");
        Due.is("spent is not shown not to be", y.last(0, 0, 0, 9), -2);
    }

    private static void rolls() {
        FeignedSuit x = Suits.suit(new String[] {"give A"}, "have X", "A");
        int[][] bad = {{1, 0}, {-1, 0}, {0, -1}, {0, 3000}, {LOW, LOW}, {HIGH, HIGH}};
        for (int[] b : bad) {
            Due.is("roll with wrong arguments", x.roll(b[0], b[1]), -1);
        }
        for (int i = 0; i < 30; i++) {
            Due.is("roll", x.roll(0, i), i);
        }
        Due.is("a roll too many", x.roll(0, 0), -1);
        Due.is("count", x.count(4), 30);
        for (int i = 1; i <= 24; i++) {
            Due.is("enter", x.enter(29, 0), i);
        }
        Due.is("an entry too many", x.enter(29, 0), -1);
        int[][] wrongEntries = {{-1, 0}, {30, 0}, {0, -1}, {0, 1}, {LOW, LOW}, {HIGH, HIGH}};
        for (int[] b : wrongEntries) {
            Due.is("enter with wrong arguments", x.enter(b[0], b[1]), -1);
        }
        Due.is("enter", x.enter(0, 0), 1);
        Due.is("words by all rolls", x.words(0, 0, 0, (1 << 30) - 1, 0), -2);
    }

    private static void judgedAndWhatFollows() {
        FeignedSuit x = Suits.suit(new String[] {"need A;end A;give C;fee 9999;days 999;turn 1 if A;turn 2 if C",
            "need C;give D;fee 1;turn 3", "give A"}, "have AB", "C");
        Told.tell(x, WISH, "A");
        Told.tell(x, WISH, "not A and D");
        Due.is("roll", x.roll(0, 5), 0);
        Due.is("an empty roll", x.judged(0, 0), 0);
        Due.is("its state", x.judged(0, 1), 3);
        Due.is("its wishes", x.feigned(0), 0);
        Due.is("its fees", x.costs(0, 0), 0);
        Due.is("its risk", x.risk(0, 0), -1);
        x.enter(0, 0);
        x.enter(0, 1);
        x.enter(0, 0);
        x.enter(0, 2);
        Due.is("the third may not be made", x.judged(0, 0), 2);
        Due.is("the state ahead of it", x.judged(0, 1), 2 | 4 | 8);
        Due.is("feigned for", x.feigned(0), 1 | 4);
        Due.is("fees", x.costs(0, 0), 10000);
        Due.is("days", x.costs(0, 1), 999);
        Due.is("risk of the first", x.risk(0, 0), 2);
        Due.is("risk of the second", x.risk(0, 1), 8);
        Due.is("risk of one that may not be made", x.risk(0, 2), -1);
        Due.is("risk of one behind it", x.risk(0, 3), -1);
        Due.is("risk of none", x.risk(0, 4), -1);
        Due.is("risk(-1)", x.risk(0, -1), -1);
        Due.is("risk(high)", x.risk(0, HIGH), -1);
        x.holds(0, 4);
        x.holds(1, 4);
        x.holds(2, 5);
        x.holds(3, 6);
        Due.is("barred", x.claims(0, 0), 16);
        Due.is("sleep, and the same person", x.claims(0, 1), 16);
        x.holds(1, 15);
        Due.is("sleep", x.claims(0, 1), 1 << 15);
        x.holds(1, -1);
        Due.is("nobody sleeps", x.claims(0, 1), 0);
        Told.tell(x, STOP, "D");
        x.force(1);
        Due.is("by stops as they are", x.judged(0, 0), 1);
        Due.is("the state then", x.judged(0, 1), 6);
        Due.is("the fees then", x.costs(0, 0), 9999);
        x.force(0);
        x.open(0, 6, 9);
        Due.is("by years as they are", x.judged(0, 0), 0);
        for (int roll : new int[] {-1, 1, 30, LOW, HIGH}) {
            Due.is("judged(" + roll + ")", x.judged(roll, 0), -1);
            Due.is("feigned(" + roll + ")", x.feigned(roll), -1);
            Due.is("claims(" + roll + ")", x.claims(roll, 0), -1);
            Due.is("risk(" + roll + ")", x.risk(roll, 0), -1);
            Due.is("costs(" + roll + ")", x.costs(roll, 0), -1);
        }
        for (int what : new int[] {-1, 2, LOW, HIGH}) {
            Due.is("judged what " + what, x.judged(0, what), -1);
            Due.is("claims what " + what, x.claims(0, what), -1);
            Due.is("costs what " + what, x.costs(0, what), -1);
        }
    }

    private static void words() {
        FeignedSuit x = Suits.suit(new String[] {"give A", "need A;give C", "give B", "need B;give C"}, "have X", "C");
        Due.is("none", x.words(0, 0, 0, 0, 0), -2);
        Due.is("none", x.words(0, 0, 0, 0, 1), -2);
        Told.tell(x, STOP, "M");
        Told.tell(x, STOP, "A");
        Told.tell(x, STOP, "B");
        Told.tell(x, STOP, "C and A");
        Told.tell(x, STOP, "C and B and A");
        Due.is("force", x.force(16), 0);
        Due.is("the set", x.words(0, 0, 0, 0, 0), 2 | 4);
        Due.is("rivals", x.words(0, 0, 0, 0, 1), 2);
        Due.is("what is in force stays", x.force(0), 16);
        Due.is("roll", x.roll(0, 0), 0);
        Due.is("enter", x.enter(0, 0), 1);
        Due.is("the set that leaves the roll", x.words(0, 0, 0, 1, 0), 4 | 8);
        Due.is("its rivals", x.words(0, 0, 0, 1, 1), 1);
        Due.is("roll", x.roll(0, 0), 1);
        Due.is("enter", x.enter(1, 2), 1);
        Due.is("no set leaves both", x.words(0, 0, 0, 3, 0), -2);
        Due.is("no set leaves both", x.words(0, 0, 0, 3, 1), -2);
        Due.is("the other roll alone", x.words(0, 0, 0, 2, 0), -2);
        Due.is("one word for all", Told.tell(x, STOP, "C"), 5);
        Due.is("both rolls are left", x.words(0, 0, 0, 3, 0), 32);
        Due.is("alone", x.words(0, 0, 0, 3, 1), 1);
        x.open(1, 5, 5);
        x.open(3, 5, 5);
        Due.is("nothing needs to be said", x.words(0, 0, 0, 3, 0), 0);
        Due.is("nothing needs to be said", x.words(0, 0, 0, 3, 1), 1);
        Due.is("a roll that cannot be", x.enter(0, 1), 2);
        Due.is("by no words", x.words(0, 0, 0, 1, 0), -2);
        for (int rolls : new int[] {4, -1, LOW, HIGH}) {
            Due.is("words by rolls " + rolls, x.words(0, 0, 0, rolls, 0), -1);
        }
        Due.is("what 2", x.words(0, 0, 0, 0, 2), -1);
        Due.is("what -1", x.words(0, 0, 0, 0, -1), -1);
    }

    private static void marks() {
        FeignedSuit x = Suits.suit(new String[] {"need A;give B", "need B;give C"}, "have A", "C");
        for (int k : new int[] {-1, 4, LOW, HIGH}) {
            Due.is("mark(" + k + ")", x.mark(k), -1);
            Due.is("back(" + k + ")", x.back(k), -1);
        }
        Due.is("back to what was never made", x.back(3), -1);
        Told.tell(x, STOP, "M");
        x.open(0, 5, 9);
        x.holds(0, 3);
        x.roll(0, 5);
        x.enter(0, 0);
        x.search(0, 0, 5, -1);
        Due.is("mark", x.mark(3), 2);
        Told.tell(x, MOVE, "give C");
        Told.tell(x, GIFT, "have C");
        Told.tell(x, WISH, "A");
        Told.tell(x, STOP, "C");
        x.open(0, 0, 1);
        x.force(3);
        x.holds(0, 4);
        x.enter(0, 2);
        x.roll(1, 0);
        Due.is("go", x.go(9), 1);
        Due.is("found by nothing", x.sought(0), 3);
        x.feed(1, 1, 1, 1, 1);
        Due.is("another mark", x.mark(0), 3);
        Due.is("back", x.back(3), 2);
        Due.is("gifts", x.count(1), 1);
        Due.is("wishes", x.count(2), 1);
        Due.is("stops", x.count(3), 1);
        Due.is("rolls", x.count(4), 1);
        Due.is("the tape stays", x.count(5), 20);
        Due.is("years", x.may(0, 9, 0, 1), 1);
        Due.is("years", x.may(0, 4, 0, 1), 0);
        Due.is("force", x.force(0), 0);
        Due.is("holds", x.holds(0, 3), 3);
        Due.is("enter", x.enter(0, 1), 2);
        Due.is("the search goes", x.sought(0), 1);
        Due.is("it has met", x.sought(1), 1);
        Due.is("go", x.go(9), 2);
        Due.is("found", x.sought(0), 2);
        Due.is("a move in the place of another one", Told.tell(x, MOVE, "give D"), 2);
        Due.is("its years are all", x.may(0, 2999, 2, 0), 1);
        Due.is("back to the other", x.back(0), 3);
        Due.is("the move that was there", x.after(2, 0), 4);
        Due.is("the search that was there", x.sought(0), 3);
        Due.is("the stops in force", x.force(3), 3);
        Due.is("back again", x.back(3), 2);
        Due.is("a mark is not changed by what comes behind", x.judged(0, 0), 1);
        Due.is("the search there", x.sought(2), 0);
        searchesBehindMarks();
        FeignedSuit y = Suits.suit(new String[] {"give B"}, "have A", "B");
        Due.is("mark ahead of any search", y.mark(1), 1);
        y.search(0, 0, 0, -1);
        y.go(1);
        Due.is("back to no search", y.back(1), 1);
        Due.is("sought", y.sought(0), 0);
        Due.is("sought", y.sought(1), 0);
        Due.is("sought", y.sought(2), 0);
        Due.is("sought", y.sought(3), -1);
        Due.is("go", y.go(1), -1);
        Due.is("met", y.met(0), -1);
        Due.is("row", y.row(0), -1);
    }

    private static void searchesBehindMarks() {
        FeignedSuit x = Suits.suit(new String[] {"give B", "end B;give A", "give C", "need B and C;give D"}, "have A", "X");
        Told.tell(x, GIFT, "have B;stop C");
        Told.tell(x, WISH, "B");
        x.open(2, 5, 5);
        x.open(3, 5, 5);
        x.search(0, 0, 5, -1);
        Due.is("go", x.go(1), 1);
        Due.is("met", x.sought(1), 3);
        x.mark(2);
        x.search(1, 1, 0, 1 << 20);
        x.back(2);
        Due.is("the states met are met still", x.go(9), 5);
        Due.is("none twice", x.sought(1), 6);
        Due.is("none leads", x.sought(0), 3);
        int[] states = {1, 3, 5, 7, 15, 13};
        for (int k = 0; k < states.length; k++) {
            Due.is("by gift and year of the mark's search, met(" + k + ")", x.met(k), states[k]);
        }
        x.back(2);
        x.search(0, 0, 0, -1);
        Due.is("a new search in another year", x.go(9), 2);
        Due.is("has none of the old states", x.sought(1), 2);
    }

    private static void counts() {
        FeignedSuit x = Suits.suit(new String[] {"give A", "give B", "give C"}, "have A", "B");
        Told.tell(x, WISH, "B");
        x.roll(0, 0);
        x.feed(0, 0, 0, 0, 0);
        int[] want = {3, 1, 2, 0, 1, 20};
        for (int what = 0; what < want.length; what++) {
            Due.is("count(" + what + ")", x.count(what), want[what]);
        }
        for (int what : new int[] {-1, 6, LOW, HIGH}) {
            Due.is("count(" + what + ")", x.count(what), -1);
        }
    }
}
