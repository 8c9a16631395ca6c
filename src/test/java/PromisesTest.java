/** The promises of the document one by one: ordinary calls, the edges that it names, and wrong arguments. */
public final class PromisesTest {
    private static final int MOVE = 0;
    private static final int GIFT = 1;
    private static final int WISH = 2;
    private static final int STOP = 3;
    private static final int LOW = Integer.MIN_VALUE;
    private static final int HIGH = Integer.MAX_VALUE;

    private static int wrong = 0;
    private static int asked = 0;

    public static void main(String[] args) {
        newObject();
        feedAndEnd();
        textNumbersAndLimits();
        textFaultsOfSigns();
        textFaultsOfNumbers();
        textFaultsOfDepth();
        textFaultsOfCounts();
        textFaultsOfClauses();
        tests();
        openAndForce();
        holdsAndFirst();
        may();
        afterAndTurned();
        searchFound();
        searchNoneLeads();
        searchSpent();
        searchAsThingsAre();
        reached();
        fewest();
        least();
        safe();
        keys();
        last();
        rolls();
        judgedAndWhatFollows();
        words();
        marks();
        counts();
        System.out.println(asked + " answers looked at, " + wrong + " not as due");
        if (wrong != 0) {
            System.exit(1);
        }
    }

    private static void due(String call, long got, long want) {
        asked++;
        if (got != want) {
            wrong++;
            System.out.println(call + " answered " + got + ", due is " + want);
        }
    }

    private static void due(String call, boolean got, boolean want) {
        due(call, got ? 1 : 0, want ? 1 : 0);
    }

    private static FeignedSuit suit(String[] moves, String gift, String wish) {
        FeignedSuit x = new FeignedSuit();
        for (int i = 0; i < moves.length; i++) {
            due("move " + moves[i], Told.tell(x, MOVE, moves[i]), i);
        }
        due("gift " + gift, Told.tell(x, GIFT, gift), 0);
        due("wish " + wish, Told.tell(x, WISH, wish), 0);
        return x;
    }

    private static void fault(int sort, String text, int place, int kind) {
        FeignedSuit x = new FeignedSuit();
        due("fault of sort " + sort + " '" + text + "'", Told.tell(x, sort, text), -2 - (1 + 8 * place + kind));
        due("nothing told by '" + text + "'", x.count(sort), 0);
        due("the tape behind '" + text + "'", x.count(5), 0);
    }

    private static void told(int sort, String text) {
        due("text of sort " + sort + " '" + text + "'", Told.tell(new FeignedSuit(), sort, text), 0);
    }

    private static void newObject() {
        FeignedSuit x = new FeignedSuit();
        for (int what = 0; what <= 5; what++) {
            due("count(" + what + ") of a new object", x.count(what), 0);
        }
        for (int what = 0; what <= 2; what++) {
            due("sought(" + what + ") ahead of any search", x.sought(what), 0);
        }
        due("sought(3) ahead of any search", x.sought(3), -1);
        due("go ahead of any search", x.go(1), -1);
        due("row ahead of any search", x.row(0), -1);
        due("met ahead of any search", x.met(0), -1);
        due("force of a new object", x.force(0), 0);
        due("holds of a new object", x.holds(0, -1), -1);
        due("first of a new object", x.first(0), -1);
        due("wished of a new object", x.wished(0, 0), -1);
        due("judged of a new object", x.judged(0, 0), -1);
        due("back of a new object", x.back(0), -1);
        due("NONE", FeignedSuit.NONE, -1);
    }

    private static void feedAndEnd() {
        FeignedSuit x = new FeignedSuit();
        for (int i = 1; i <= 20; i++) {
            due("feed " + i, x.feed(-1, HIGH, LOW, 0, 1), 20 * i);
        }
        due("feed beyond 400", x.feed(0, 0, 0, 0, 0), -1);
        due("tape after a feed that was refused", x.count(5), 400);
        due("end(401)", x.end(401), -1);
        due("end(-1)", x.end(-1), -1);
        due("end(low)", x.end(LOW), -1);
        due("end(400)", x.end(400), 400);
        due("end(381)", x.end(381), 381);
        due("feed from 381", x.feed(0, 0, 0, 0, 0), -1);
        due("end(380)", x.end(380), 380);
        due("feed from 380", x.feed(0, 0, 0, 0, 0), 400);
        due("end(0)", x.end(0), 0);
        due("end(1) of an empty tape", x.end(1), -1);
        // "X and not A": the highest byte of each number comes first.
        due("feed", x.feed(0x5820616E, 0x64206E6F, 0x74204100, 0, 0), 20);
        due("end", x.end(11), 11);
        due("text", x.text(WISH), 0);
        due("wished", x.wished(0, 1 << 23), 1);
        due("wished", x.wished(0, 1 << 23 | 1), 0);
    }

    private static void textNumbersAndLimits() {
        int[] most = {40, 8, 16, 8};
        String[] texts = {"give A", "have A", "A", "A"};
        FeignedSuit x = new FeignedSuit();
        for (int sort = 0; sort < 4; sort++) {
            for (int i = 0; i < most[sort]; i++) {
                due("text " + i + " of sort " + sort, Told.tell(x, sort, texts[sort]), i);
            }
            due("a text too many of sort " + sort, Told.tell(x, sort, texts[sort]), -1);
            due("the tape then", x.count(5), texts[sort].length());
            due("how many then", x.count(sort), most[sort]);
            x.end(0);
            due("a text too many with a fault", x.text(sort), -1);
        }
        due("force of all", x.force(255), 0);
        due("force of more", x.force(256), -1);
        x.feed(0, 0, 0, 0, 0);
        for (int sort : new int[] {-1, 4, LOW, HIGH}) {
            due("text(" + sort + ")", x.text(sort), -1);
            due("the tape then", x.count(5), 20);
        }
    }

    private static void textFaultsOfSigns() {
        for (int sort = 0; sort < 4; sort++) {
            fault(sort, "", 0, 0);
            fault(sort, "   ", 3, 0);
            fault(sort, "\t", 0, 0);
            fault(sort, "@", 0, 0);
            fault(sort, "\u00ff", 0, 0);
            fault(sort, "[", sort < 2 ? 0 : 1, 0);
        }
        fault(MOVE, "need", 4, 0);
        fault(MOVE, "need   ", 7, 0);
        fault(MOVE, " needof A", 1, 0);
        fault(MOVE, "Need A", 0, 0);
        fault(MOVE, "need Y", 5, 0);
        fault(MOVE, "need A B", 7, 0);
        fault(MOVE, "need A;", 7, 0);
        fault(MOVE, "need A;;", 7, 0);
        fault(MOVE, "need A ; have B", 9, 0);
        fault(MOVE, "need A or", 9, 0);
        fault(MOVE, "need A ors B", 7, 0);
        fault(MOVE, "need A if B", 7, 0);
        fault(MOVE, "need A]", 6, 0);
        fault(MOVE, "need [A;give B", 7, 0);
        fault(MOVE, "need [A", 7, 0);
        fault(MOVE, "need []", 6, 0);
        fault(MOVE, "need or A", 5, 0);
        fault(MOVE, "need not and", 9, 0);
        fault(MOVE, "need of > 1", 8, 0);
        fault(MOVE, "need of A B 1", 12, 0);
        fault(MOVE, "need of A < = 1", 12, 0);
        fault(MOVE, "need of A == 1", 11, 0);
        fault(MOVE, "need of A => 1", 11, 0);
        fault(MOVE, "need of A > B", 12, 0);
        fault(MOVE, "need of A >", 11, 0);
        fault(MOVE, "give", 4, 0);
        fault(MOVE, "give A and B", 7, 0);
        fault(MOVE, "give AbC", 6, 0);
        fault(MOVE, "end 1", 4, 0);
        fault(MOVE, "turn 5 A", 7, 0);
        fault(MOVE, "turn 5 if", 9, 0);
        fault(MOVE, "turn if A", 5, 0);
        fault(GIFT, "have A or B", 7, 0);
        fault(GIFT, "need A", 0, 0);
        fault(GIFT, "stop", 4, 0);
        fault(WISH, "A;", 1, 0);
        fault(WISH, "A\0", 1, 0);
        fault(STOP, "need A", 0, 0);
        told(MOVE, "needA;giveBC D;endX;days0;fee 9999 ; lend15;turn0if not A");
        fault(MOVE, "turn0ifnot A", 5, 0);
        told(WISH, "  [A]and not[B or of A B C>=3]or X  ");
        told(GIFT, "have A;stop A;have A;stop B");
        told(GIFT, "stop of A<0");
    }

    private static void textFaultsOfNumbers() {
        fault(MOVE, "days", 4, 0);
        fault(MOVE, "days A", 5, 0);
        fault(MOVE, "days -1", 5, 0);
        fault(MOVE, "days 1000", 5, 1);
        fault(MOVE, "days   000001", 7, 1);
        fault(MOVE, "days 999999999999999999999", 5, 1);
        fault(MOVE, "days 4294967296", 5, 1);
        fault(MOVE, "days 1 2", 7, 0);
        fault(MOVE, "fee 10000", 4, 1);
        fault(MOVE, "lend 16", 5, 1);
        fault(MOVE, "turn 16", 5, 1);
        fault(MOVE, "turn 16 if", 5, 1);
        fault(WISH, "of A = 25", 7, 1);
        fault(WISH, "of A = 000024", 7, 1);
        fault(WISH, "of A = 25 and Y", 7, 1);
        told(MOVE, "days 00999;fee 9999;lend 00015;turn 15");
        told(WISH, "of A = 00024");
    }

    private static void textFaultsOfDepth() {
        told(WISH, "[[[[[[[[[[A]]]]]]]]]]");
        told(WISH, "not not not not not not not not not not A");
        told(WISH, "not [not [not [not [not [A]]]]]");
        told(WISH, "[[[[[[[[[not A]]]]]]]]] and [[[[[[[[[[B]]]]]]]]]] or not [[[[[[[[[C]]]]]]]]]");
        told(WISH, "[not not not not not not not not not A and not not not not not not not not not B]");
        fault(WISH, "[[[[[[[[[[[A]]]]]]]]]]]", 10, 2);
        fault(WISH, "[[[[[[[[[[not A", 10, 2);
        fault(WISH, "not not not not not not not not not not not A", 40, 2);
        fault(WISH, "not not not not not not not not not not [A]", 40, 2);
        fault(WISH, "[not not not not not not not not not A and [not not not not not not not not not A]]", 76, 2);
        fault(WISH, "[[[[[[[[[[nota", 10, 0);
        fault(MOVE, "turn 1 if [[[[[[[[[[[", 20, 2);
        told(MOVE, "need [[[[[[[[[[A]]]]]]]]]];turn 1 if [[[[[[[[[[A]]]]]]]]]]");
    }

    private static String repeated(String text, int times, String between) {
        StringBuilder b = new StringBuilder();
        for (int i = 0; i < times; i++) {
            b.append(i == 0 ? "" : between).append(text);
        }
        return b.toString();
    }

    private static void textFaultsOfCounts() {
        String sixty = repeated("A", 60, "or ");
        told(WISH, sixty);
        fault(WISH, sixty + "or B", sixty.length() + 3, 3);
        fault(WISH, sixty + "or of", sixty.length() + 3, 3);
        fault(WISH, sixty + "or not B", sixty.length() + 7, 3);
        fault(WISH, sixty + "or [[ B", sixty.length() + 6, 3);
        fault(WISH, sixty + "or Y", sixty.length() + 3, 0);
        fault(WISH, sixty + "or ofA", sixty.length() + 3, 3);
        fault(WISH, sixty + "or off", sixty.length() + 3, 0);
        fault(WISH, sixty + "or", sixty.length() + 2, 0);
        String thirty = repeated("A", 30, "or ");
        told(MOVE, "need " + thirty + ";turn 1 if " + thirty + ";give ABCDE");
        fault(MOVE, "need " + thirty + ";turn 1 if " + thirty + ";give ABCDE;need A", 5 + 2 * thirty.length() + 11 + 12 + 5, 3);
        String ofs = repeated("of A=1", 36, "or ");
        told(GIFT, "stop " + ofs + ";have ABC");
    }

    private static void textFaultsOfClauses() {
        String twelve = repeated("give A", 12, ";");
        told(MOVE, twelve);
        fault(MOVE, twelve + ";", 84, 0);
        fault(MOVE, twelve + ";give", 84, 4);
        fault(MOVE, twelve + "; fee 1", 85, 4);
        fault(MOVE, twelve + ";giv A", 84, 0);
        fault(MOVE, twelve + ";have A", 84, 0);
        told(GIFT, repeated("have A;stop B", 6, ";"));
        fault(GIFT, repeated("have A;stop B", 6, ";") + ";stop C", 84, 4);
        fault(MOVE, "days 1;days 1", 7, 4);
        fault(MOVE, "fee 1;give A; fee x", 14, 4);
        fault(MOVE, "days 1;fee 1;days", 13, 4);
        told(MOVE, "lend 1;lend 1;turn 1;turn 1;need A;need B;end A;end B;give A;give B;days 1;fee 1");
    }

    private static void holdsOf(String test, int state, int want) {
        FeignedSuit x = new FeignedSuit();
        Told.tell(x, WISH, test);
        due("'" + test + "' of " + state, x.wished(0, state), want);
    }

    private static void tests() {
        holdsOf("A or B and C", 1, 1);
        holdsOf("A or B and C", 2, 0);
        holdsOf("A or B and C", 6, 1);
        holdsOf("A and B or C", 4, 1);
        holdsOf("[A or B] and C", 1, 0);
        holdsOf("not A and B", 2, 1);
        holdsOf("not A or B", 3, 1);
        holdsOf("not [A or B]", 2, 0);
        holdsOf("not not A", 1, 1);
        holdsOf("not [not A and not B] and C", 5, 1);
        holdsOf("not [not A and not B] and C", 4, 0);
        holdsOf("of AAB = 1", 1, 1);
        holdsOf("of AAB = 2", 1, 0);
        holdsOf("of A < 0", 0, 0);
        holdsOf("of A <= 0", 0, 1);
        holdsOf("of A <= 0", 1, 0);
        holdsOf("of AB < 2", 1, 1);
        holdsOf("of AB < 2", 3, 0);
        holdsOf("of AB > 1", 3, 1);
        holdsOf("of AB > 1", 1, 0);
        holdsOf("of AB >= 1", 2, 1);
        holdsOf("of AB >= 1", 4, 0);
        holdsOf("of AB >= 0", 0, 1);
        holdsOf("of A > 24", 1, 0);
        holdsOf("of ABCDEFGHIJKLMNOPQRSTUVWX = 24", 16777215, 1);
        holdsOf("A or B or C and not C or D", 8, 1);
        holdsOf("A", -1, -1);
        holdsOf("A", 16777216, -1);
        FeignedSuit x = new FeignedSuit();
        Told.tell(x, WISH, "A");
        for (int wish : new int[] {-1, 1, 16, LOW, HIGH}) {
            due("wished(" + wish + ", 0)", x.wished(wish, 0), -1);
        }
    }

    private static void openAndForce() {
        FeignedSuit x = suit(new String[] {"give A"}, "stop X", "A");
        due("open in all years", x.may(0, 2999, 0, 0), 1);
        due("open", x.open(0, 10, 10), true);
        due("ahead of it", x.may(0, 9, 0, 0), 0);
        due("in it", x.may(0, 10, 0, 0), 1);
        due("behind it", x.may(0, 11, 0, 0), 0);
        int[][] bad = {{0, 11, 10}, {1, 0, 1}, {-1, 0, 1}, {0, -1, 5}, {0, 5, 3000}, {0, LOW, HIGH}, {40, 0, 0}};
        for (int[] b : bad) {
            due("open with wrong arguments", x.open(b[0], b[1], b[2]), false);
        }
        due("still in it", x.may(0, 10, 0, 0), 1);
        due("still not behind it", x.may(0, 11, 0, 0), 0);
        due("open", x.open(0, 0, 2999), true);
        due("force of a stop that is not there", x.force(1), -1);
        due("a stop", Told.tell(x, STOP, "A"), 0);
        due("told is not in force", x.may(0, 0, 0, 0), 1);
        due("force", x.force(1), 0);
        due("in force", x.may(0, 0, 0, 0), 0);
        for (int set : new int[] {2, 3, -1, LOW, HIGH}) {
            due("force(" + set + ")", x.force(set), -1);
        }
        due("still in force", x.may(0, 0, 0, 0), 0);
        due("force", x.force(0), 1);
    }

    private static void holdsAndFirst() {
        FeignedSuit x = new FeignedSuit();
        due("holds", x.holds(23, 15), -1);
        due("holds", x.holds(23, 0), 15);
        int[][] bad = {{-1, 0}, {24, 0}, {23, -2}, {23, 16}, {LOW, LOW}, {HIGH, HIGH}};
        for (int[] b : bad) {
            due("holds with wrong arguments", x.holds(b[0], b[1]), -2);
        }
        due("holds", x.holds(23, -1), 0);
        due("holds", x.holds(23, 3), -1);
        due("a gift", Told.tell(x, GIFT, "have AC;stop A;have CX"), 0);
        due("a gift of nothing", Told.tell(x, GIFT, "stop A"), 1);
        due("first", x.first(0), 1 | 4 | 1 << 23);
        due("first of nothing", x.first(1), 0);
        for (int gift : new int[] {-1, 2, 8, LOW, HIGH}) {
            due("first(" + gift + ")", x.first(gift), -1);
        }
    }

    private static void may() {
        FeignedSuit x = suit(new String[] {"need A;need B;give C", "end D;give C", "end A;give A"},
                "have D;stop C and D;stop E and C", "A");
        due("all needs", x.may(0, 0, 0, 3), 1);
        due("one need", x.may(0, 0, 0, 1), 0);
        due("other need", x.may(0, 0, 0, 2), 0);
        due("the same state", x.may(0, 0, 0, 7), 0);
        due("stopped by the gift", x.may(0, 0, 0, 11), 0);
        due("stopped by its other stop", x.may(0, 0, 0, 19), 0);
        due("a stop of the state ahead does not count", x.may(0, 0, 1, 8), 1);
        due("the state ahead is stopped, the one behind not", x.may(0, 0, 1, 12), 1);
        due("what is ended and given is given", x.may(0, 0, 2, 0), 1);
        due("ended and given again is the same", x.may(0, 0, 2, 1), 0);
        due("a gift without stops", Told.tell(x, GIFT, "have A"), 1);
        due("by another gift", x.may(1, 0, 0, 11), 1);
        int[][] bad = {{2, 0, 0, 0}, {-1, 0, 0, 0}, {0, -1, 0, 0}, {0, 3000, 0, 0}, {0, 0, -1, 0}, {0, 0, 3, 0},
            {0, 0, 0, -1}, {0, 0, 0, 16777216}, {LOW, LOW, LOW, LOW}, {HIGH, HIGH, HIGH, HIGH}};
        for (int[] b : bad) {
            due("may with wrong arguments", x.may(b[0], b[1], b[2], b[3]), -1);
        }
    }

    private static void afterAndTurned() {
        FeignedSuit x = suit(new String[] {"need X;end AB;give BC;turn 0;turn 15 if A;turn 3 if B or not C;turn 15 if D",
            "days 5"}, "have A", "A");
        due("after, may it be made or not", x.after(0, 3), 6);
        due("after the end", x.after(0, 16777215), 16777214);
        due("after nothing", x.after(1, 5), 5);
        due("turned", x.turned(0, 1), 1 | 1 << 15 | 8);
        due("turned", x.turned(0, 4), 1);
        due("turned", x.turned(0, 6), 9);
        due("turned by the other clause", x.turned(0, 12), 1 | 1 << 15);
        due("turned by nobody", x.turned(1, 1), 0);
        int[][] bad = {{-1, 0}, {2, 0}, {0, -1}, {0, 16777216}, {LOW, LOW}, {HIGH, HIGH}};
        for (int[] b : bad) {
            due("after with wrong arguments", x.after(b[0], b[1]), -1);
            due("turned with wrong arguments", x.turned(b[0], b[1]), -1);
        }
    }

    private static void searchFound() {
        FeignedSuit x = suit(new String[] {"need A;give B", "need A;give C", "need B and not C;give D",
            "need B;give C", "need D;give E"}, "have A", "C and D");
        due("search", x.search(0, 0, 0, -1), true);
        due("go", x.go(2), 2);
        // 1; 3 by B, 5 by C; then from 3: 7 by move 1, 11 by move 2; move 3 gives 7 again.
        int[] states = {1, 3, 5, 7, 11};
        for (int k = 0; k < states.length; k++) {
            due("met(" + k + ")", x.met(k), states[k]);
        }
        due("met(5)", x.met(5), -1);
        due("goes", x.sought(0), 1);
        due("no row yet", x.row(0), -1);
        due("go", x.go(4000), 3);
        due("found", x.sought(0), 2);
        // The state in which it is found counts as gone through, and its later moves are not looked at.
        due("gone through", x.sought(2), 5);
        due("states met", x.sought(1), 6);
        due("the last one", x.met(5), 15);
        due("row", x.sought(3), 3);
        int[] row = {0, 2, 1, -1};
        for (int k = 0; k < row.length; k++) {
            due("row(" + k + ")", x.row(k), row[k]);
        }
        due("row(-1)", x.row(-1), -1);
        due("row(low)", x.row(LOW), -1);
        due("row(high)", x.row(HIGH), -1);
        due("met(-1)", x.met(-1), -1);
        due("met(high)", x.met(HIGH), -1);
        due("go further", x.go(1), 0);
        due("sought(4)", x.sought(4), -1);
        due("sought(-1)", x.sought(-1), -1);
        int[][] bad = {{1, 0, 0, 0}, {0, 1, 0, 0}, {0, 0, -1, 0}, {0, 0, 3000, 0}, {0, 0, 0, -2}, {0, 0, 0, 16777216},
            {-1, 0, 0, 0}, {0, -1, 0, 0}, {HIGH, HIGH, HIGH, HIGH}, {LOW, LOW, LOW, LOW}};
        for (int[] b : bad) {
            due("search with wrong arguments", x.search(b[0], b[1], b[2], b[3]), false);
        }
        due("still found", x.sought(0), 2);
        due("search from a state that is as wished", x.search(0, 0, 0, 12), true);
        due("found at once", x.sought(0), 2);
        due("an empty row", x.sought(3), 0);
        due("one met", x.sought(1), 1);
        due("none gone through", x.sought(2), 0);
        due("go when found", x.go(3), 0);
    }

    private static void searchNoneLeads() {
        FeignedSuit x = suit(new String[] {"need A;give B"}, "have A;stop A", "X");
        due("search", x.search(0, 0, 0, -1), true);
        due("the first state is met though stopped", x.met(0), 1);
        for (int n : new int[] {0, -1, 4001, LOW, HIGH}) {
            due("go(" + n + ")", x.go(n), -1);
        }
        due("go", x.go(4000), 1);
        due("none leads", x.sought(0), 3);
        due("a move that leads", Told.tell(x, MOVE, "end A;give X"), 1);
        due("it stays", x.go(1), 0);
        due("it stays", x.sought(0), 3);
        due("no row", x.sought(3), -1);
        due("a new search", x.search(0, 0, 0, -1), true);
        due("go", x.go(1), 1);
        due("found", x.sought(0), 2);
    }

    /** Twelve rights that can each be given: 4096 states. */
    private static FeignedSuit wide(int rights, String wish) {
        String[] moves = new String[rights];
        for (int i = 0; i < rights; i++) {
            moves[i] = "give " + (char) ('A' + i) + ";lend " + (i % 4);
        }
        return suit(moves, "have X", wish);
    }

    private static void searchSpent() {
        FeignedSuit x = wide(12, "of ABCDEFGHIJKL > 11");
        due("search", x.search(0, 0, 0, -1), true);
        int gone = x.go(4000);
        due("spent", x.sought(0), 4);
        due("gone through", x.sought(2), gone);
        due("met", x.sought(1), 4000);
        due("no row", x.sought(3), -1);
        due("go when spent", x.go(1), 0);
        due("met(3999) is there", x.met(3999) >= 0, true);
        due("met(4000)", x.met(4000), -1);
        FeignedSuit y = wide(11, "of ABCDEFGHIJK > 10");
        due("search", y.search(0, 0, 0, -1), true);
        // All but the last one: it is met from the first with ten rights.
        due("go by one", y.go(1), 1);
        due("met by one", y.sought(1), 12);
        y.go(4000);
        due("found", y.sought(0), 2);
        due("row", y.sought(3), 11);
        due("met in all", y.sought(1), 2048);
    }

    private static void searchAsThingsAre() {
        FeignedSuit x = suit(new String[] {"need A;give B", "need B;give C", "need C;give D"}, "have A", "D");
        due("a stop", Told.tell(x, STOP, "C"), 0);
        due("search", x.search(0, 0, 7, -1), true);
        due("go", x.go(1), 1);
        due("force", x.force(1), 0);
        due("go by a stop", x.go(1), 1);
        due("stopped", x.sought(0), 3);
        due("force", x.force(0), 1);
        due("search", x.search(0, 0, 7, -1), true);
        due("go", x.go(2), 2);
        due("open", x.open(2, 8, 9), true);
        due("go by years", x.go(1), 1);
        due("shut", x.sought(0), 3);
    }

    private static void reached() {
        FeignedSuit x = wide(9, "of ABCDEFGHI > 8");
        // 512 states, and the one that is as wished is the last of them.
        due("spent", x.reached(0, 0, 0), 4);
        due("a wish nearer", Told.tell(x, WISH, "of ABCDEFGHI > 4"), 1);
        due("found", x.reached(0, 1, 0), 2);
        due("a wish that never is", Told.tell(x, WISH, "M"), 2);
        due("shut", x.open(8, 5, 5), true);
        due("256 states", x.reached(0, 2, 0), 3);
        due("512 states", x.reached(0, 2, 5), 4);
        due("a wish that is there", Told.tell(x, WISH, "X"), 3);
        due("found at once", x.reached(0, 3, 5), 2);
        int[][] bad = {{1, 0, 0}, {-1, 0, 0}, {0, 4, 0}, {0, -1, 0}, {0, 0, -1}, {0, 0, 3000}, {LOW, LOW, LOW},
            {HIGH, HIGH, HIGH}};
        for (int[] b : bad) {
            due("reached with wrong arguments", x.reached(b[0], b[1], b[2]), -1);
            due("keys with wrong arguments", x.keys(b[0], b[1], b[2]), -1);
            due("fewest with wrong arguments", x.fewest(b[0], b[1], b[2], 0), -1);
            due("least with wrong arguments", x.least(b[0], b[1], b[2], 0), -1);
            due("safe with wrong arguments", x.safe(b[0], b[1], b[2], 0), -1);
            due("words with wrong arguments", x.words(b[0], b[1], b[2], 0, 0), -1);
            due("last with wrong arguments", x.last(b[0], b[1], b[2], b[2]), -1);
        }
        due("no search by it", x.sought(0), 0);
    }

    private static void fewest() {
        FeignedSuit x = suit(new String[] {"give A;lend 9", "need A;give C;lend 0", "give B;lend 4;lend 5",
            "need B;give C", "give D;lend 15"}, "have X", "C");
        due("how many", x.fewest(0, 0, 0, 0), 2);
        due("of two sets the least as a number", x.fewest(0, 0, 0, 1), 1 << 4 | 1 << 5);
        x.open(3, 1, 1);
        due("in another year", x.fewest(0, 0, 0, 1), 1 << 9 | 1);
        x.open(1, 1, 1);
        due("none", x.fewest(0, 0, 0, 0), -2);
        due("none", x.fewest(0, 0, 0, 1), -2);
        due("what 2", x.fewest(0, 0, 0, 2), -1);
        due("what -1", x.fewest(0, 0, 0, -1), -1);
        due("a move", Told.tell(x, MOVE, "lend 1;lend 2;lend 3;lend 6;lend 7"), 5);
        due("ten lend", x.fewest(0, 0, 1, 0), 2);
        due("a move that is shut", Told.tell(x, MOVE, "lend 8"), 6);
        x.open(6, 9, 9);
        due("eleven lend", x.fewest(0, 0, 1, 0), -3);
        due("eleven lend", x.fewest(0, 0, 1, 1), -3);
        FeignedSuit y = wide(10, "of ABCDEFGHIJ > 6");
        // By all names it is spent, and by fewer names there are too few rights.
        due("spent does not suffice", y.reached(0, 0, 0), 4);
        due("three names give seven rights or eight", y.fewest(0, 0, 0, 0), 3);
        due("the least set", y.fewest(0, 0, 0, 1), 7);
    }

    private static void least() {
        FeignedSuit x = suit(new String[] {"give C;fee 100;days 1", "give A;fee 30;days 20",
            "need A;give C;fee 60;days 10", "need A and C;give D"}, "have X", "C");
        due("fees", x.least(0, 0, 0, 0), 90);
        due("days", x.least(0, 0, 0, 1), 1);
        due("what 2", x.least(0, 0, 0, 2), -1);
        due("what -1", x.least(0, 0, 0, -1), -1);
        x.open(2, 5, 5);
        due("fees in another year", x.least(0, 0, 0, 0), 100);
        x.open(0, 5, 5);
        due("none", x.least(0, 0, 0, 0), -2);
        due("a wish that is there", Told.tell(x, WISH, "X"), 1);
        due("nothing to pay", x.least(0, 1, 0, 0), 0);
        FeignedSuit y = wide(9, "X");
        due("512 states, though the first one is as wished", y.least(0, 0, 0, 0), -3);
        due("a stop", Told.tell(y, STOP, "of ABCDEFGHI > 6"), 0);
        // 512 less 36, 9 and 1.
        y.force(1);
        due("466 states", y.least(0, 0, 0, 0), 0);
    }

    private static void safe() {
        FeignedSuit x = suit(new String[] {"give C;turn 3", "give A;turn 1 if not B", "give B",
            "need A;give C;turn 2 if not B"}, "have X", "C");
        due("nobody trusted: B, A, C", x.safe(0, 0, 0, 0), 3);
        due("one trusted", x.safe(0, 0, 0, 8), 1);
        due("others trusted", x.safe(0, 0, 0, 6), 2);
        due("all trusted", x.safe(0, 0, 0, 65535), 1);
        due("trusted 65536", x.safe(0, 0, 0, 65536), -1);
        due("trusted -1", x.safe(0, 0, 0, -1), -1);
        x.open(2, 5, 5);
        due("none", x.safe(0, 0, 0, 0), -2);
        FeignedSuit y = wide(9, "K");
        due("a move that all may turn at", Told.tell(y, MOVE, "give K;turn 7"), 9);
        due("found ahead of the 501st", y.safe(0, 0, 0, 128), 1);
        due("spent", y.safe(0, 0, 0, 0), -3);
        due("trust is for that call alone", y.reached(0, 0, 0), 2);
        due("and no matter for keys", y.keys(0, 0, 0), 0);
    }

    private static void keys() {
        FeignedSuit x = suit(new String[] {"give A", "need A;give B", "need A;give D", "need B or D;give C", "give E"},
                "have X", "C");
        due("two of five", x.keys(0, 0, 0), 1 | 8);
        x.open(2, 5, 5);
        due("three of five", x.keys(0, 0, 0), 1 | 2 | 8);
        x.open(1, 5, 5);
        due("all, if it is not reached at all", x.keys(0, 0, 0), 31);
        FeignedSuit z = wide(9, "K");
        due("spent with all, and not without any one", z.reached(0, 0, 0), 4);
        due("each of them then", z.keys(0, 0, 0), 511);
        FeignedSuit y = wide(10, "K");
        due("none, if spent", y.keys(0, 0, 0), 0);
        for (int i = 10; i < 40; i++) {
            Told.tell(y, MOVE, i == 39 ? "give K" : "turn 1");
        }
        due("the fortieth", y.keys(0, 0, 0), 0);
        y.force(0);
        for (int i = 0; i < 10; i++) {
            y.open(i, 5, 5);
        }
        due("the fortieth", y.keys(0, 0, 0), 1L << 39);
    }

    private static void last() {
        FeignedSuit x = suit(new String[] {"give C", "give C"}, "have X", "C");
        x.open(0, 0, 20);
        x.open(1, 25, 2999);
        due("the first year without", x.last(0, 0, 0, 99), 21);
        due("one year", x.last(0, 0, 24, 24), 24);
        due("none of these", x.last(0, 0, 25, 124), -2);
        due("100 years to the end", x.last(0, 0, 2900, 2999), -2);
        int[][] bad = {{0, 100}, {5, 4}, {-1, 5}, {2999, 3000}, {3000, 3000}, {LOW, HIGH}, {HIGH, LOW}};
        for (int[] b : bad) {
            due("last(.., " + b[0] + ", " + b[1] + ")", x.last(0, 0, b[0], b[1]), -1);
        }
        FeignedSuit y = wide(10, "K");
        due("spent is not shown not to be", y.last(0, 0, 0, 9), -2);
    }

    private static void rolls() {
        FeignedSuit x = suit(new String[] {"give A"}, "have X", "A");
        int[][] bad = {{1, 0}, {-1, 0}, {0, -1}, {0, 3000}, {LOW, LOW}, {HIGH, HIGH}};
        for (int[] b : bad) {
            due("roll with wrong arguments", x.roll(b[0], b[1]), -1);
        }
        for (int i = 0; i < 30; i++) {
            due("roll", x.roll(0, i), i);
        }
        due("a roll too many", x.roll(0, 0), -1);
        due("count", x.count(4), 30);
        for (int i = 1; i <= 24; i++) {
            due("enter", x.enter(29, 0), i);
        }
        due("an entry too many", x.enter(29, 0), -1);
        int[][] wrongEntries = {{-1, 0}, {30, 0}, {0, -1}, {0, 1}, {LOW, LOW}, {HIGH, HIGH}};
        for (int[] b : wrongEntries) {
            due("enter with wrong arguments", x.enter(b[0], b[1]), -1);
        }
        due("enter", x.enter(0, 0), 1);
        due("words by all rolls", x.words(0, 0, 0, (1 << 30) - 1, 0), -2);
    }

    private static void judgedAndWhatFollows() {
        FeignedSuit x = suit(new String[] {"need A;end A;give C;fee 9999;days 999;turn 1 if A;turn 2 if C",
            "need C;give D;fee 1;turn 3", "give A"}, "have AB", "C");
        Told.tell(x, WISH, "A");
        Told.tell(x, WISH, "not A and D");
        due("roll", x.roll(0, 5), 0);
        due("an empty roll", x.judged(0, 0), 0);
        due("its state", x.judged(0, 1), 3);
        due("its wishes", x.feigned(0), 0);
        due("its fees", x.costs(0, 0), 0);
        due("its risk", x.risk(0, 0), -1);
        x.enter(0, 0);
        x.enter(0, 1);
        x.enter(0, 0);
        x.enter(0, 2);
        due("the third may not be made", x.judged(0, 0), 2);
        due("the state ahead of it", x.judged(0, 1), 2 | 4 | 8);
        due("feigned for", x.feigned(0), 1 | 4);
        due("fees", x.costs(0, 0), 10000);
        due("days", x.costs(0, 1), 999);
        due("risk of the first", x.risk(0, 0), 2);
        due("risk of the second", x.risk(0, 1), 8);
        due("risk of one that may not be made", x.risk(0, 2), -1);
        due("risk of one behind it", x.risk(0, 3), -1);
        due("risk of none", x.risk(0, 4), -1);
        due("risk(-1)", x.risk(0, -1), -1);
        due("risk(high)", x.risk(0, HIGH), -1);
        x.holds(0, 4);
        x.holds(1, 4);
        x.holds(2, 5);
        x.holds(3, 6);
        due("barred", x.claims(0, 0), 16);
        due("sleep, and the same person", x.claims(0, 1), 16);
        x.holds(1, 15);
        due("sleep", x.claims(0, 1), 1 << 15);
        x.holds(1, -1);
        due("nobody sleeps", x.claims(0, 1), 0);
        Told.tell(x, STOP, "D");
        x.force(1);
        due("by stops as they are", x.judged(0, 0), 1);
        due("the state then", x.judged(0, 1), 6);
        due("the fees then", x.costs(0, 0), 9999);
        x.force(0);
        x.open(0, 6, 9);
        due("by years as they are", x.judged(0, 0), 0);
        for (int roll : new int[] {-1, 1, 30, LOW, HIGH}) {
            due("judged(" + roll + ")", x.judged(roll, 0), -1);
            due("feigned(" + roll + ")", x.feigned(roll), -1);
            due("claims(" + roll + ")", x.claims(roll, 0), -1);
            due("risk(" + roll + ")", x.risk(roll, 0), -1);
            due("costs(" + roll + ")", x.costs(roll, 0), -1);
        }
        for (int what : new int[] {-1, 2, LOW, HIGH}) {
            due("judged what " + what, x.judged(0, what), -1);
            due("claims what " + what, x.claims(0, what), -1);
            due("costs what " + what, x.costs(0, what), -1);
        }
    }

    private static void words() {
        FeignedSuit x = suit(new String[] {"give A", "need A;give C", "give B", "need B;give C"}, "have X", "C");
        due("none", x.words(0, 0, 0, 0, 0), -2);
        due("none", x.words(0, 0, 0, 0, 1), -2);
        Told.tell(x, STOP, "M");
        Told.tell(x, STOP, "A");
        Told.tell(x, STOP, "B");
        Told.tell(x, STOP, "C and A");
        Told.tell(x, STOP, "C and B and A");
        due("force", x.force(16), 0);
        due("the set", x.words(0, 0, 0, 0, 0), 2 | 4);
        due("rivals", x.words(0, 0, 0, 0, 1), 2);
        due("what is in force stays", x.force(0), 16);
        due("roll", x.roll(0, 0), 0);
        due("enter", x.enter(0, 0), 1);
        due("the set that leaves the roll", x.words(0, 0, 0, 1, 0), 4 | 8);
        due("its rivals", x.words(0, 0, 0, 1, 1), 1);
        due("roll", x.roll(0, 0), 1);
        due("enter", x.enter(1, 2), 1);
        due("no set leaves both", x.words(0, 0, 0, 3, 0), -2);
        due("no set leaves both", x.words(0, 0, 0, 3, 1), -2);
        due("the other roll alone", x.words(0, 0, 0, 2, 0), -2);
        due("one word for all", Told.tell(x, STOP, "C"), 5);
        due("both rolls are left", x.words(0, 0, 0, 3, 0), 32);
        due("alone", x.words(0, 0, 0, 3, 1), 1);
        x.open(1, 5, 5);
        x.open(3, 5, 5);
        due("nothing needs to be said", x.words(0, 0, 0, 3, 0), 0);
        due("nothing needs to be said", x.words(0, 0, 0, 3, 1), 1);
        due("a roll that cannot be", x.enter(0, 1), 2);
        due("by no words", x.words(0, 0, 0, 1, 0), -2);
        for (int rolls : new int[] {4, -1, LOW, HIGH}) {
            due("words by rolls " + rolls, x.words(0, 0, 0, rolls, 0), -1);
        }
        due("what 2", x.words(0, 0, 0, 0, 2), -1);
        due("what -1", x.words(0, 0, 0, 0, -1), -1);
    }

    private static void marks() {
        FeignedSuit x = suit(new String[] {"need A;give B", "need B;give C"}, "have A", "C");
        for (int k : new int[] {-1, 4, LOW, HIGH}) {
            due("mark(" + k + ")", x.mark(k), -1);
            due("back(" + k + ")", x.back(k), -1);
        }
        due("back to what was never made", x.back(3), -1);
        Told.tell(x, STOP, "M");
        x.open(0, 5, 9);
        x.holds(0, 3);
        x.roll(0, 5);
        x.enter(0, 0);
        x.search(0, 0, 5, -1);
        due("mark", x.mark(3), 2);
        Told.tell(x, MOVE, "give C");
        Told.tell(x, GIFT, "have C");
        Told.tell(x, WISH, "A");
        Told.tell(x, STOP, "C");
        x.open(0, 0, 1);
        x.force(3);
        x.holds(0, 4);
        x.enter(0, 2);
        x.roll(1, 0);
        due("go", x.go(9), 1);
        due("found by nothing", x.sought(0), 3);
        x.feed(1, 1, 1, 1, 1);
        due("another mark", x.mark(0), 3);
        due("back", x.back(3), 2);
        due("gifts", x.count(1), 1);
        due("wishes", x.count(2), 1);
        due("stops", x.count(3), 1);
        due("rolls", x.count(4), 1);
        due("the tape stays", x.count(5), 20);
        due("years", x.may(0, 9, 0, 1), 1);
        due("years", x.may(0, 4, 0, 1), 0);
        due("force", x.force(0), 0);
        due("holds", x.holds(0, 3), 3);
        due("enter", x.enter(0, 1), 2);
        due("the search goes", x.sought(0), 1);
        due("it has met", x.sought(1), 1);
        due("go", x.go(9), 2);
        due("found", x.sought(0), 2);
        due("a move in the place of another one", Told.tell(x, MOVE, "give D"), 2);
        due("its years are all", x.may(0, 2999, 2, 0), 1);
        due("back to the other", x.back(0), 3);
        due("the move that was there", x.after(2, 0), 4);
        due("the search that was there", x.sought(0), 3);
        due("the stops in force", x.force(3), 3);
        due("back again", x.back(3), 2);
        due("a mark is not changed by what comes behind", x.judged(0, 0), 1);
        due("the search there", x.sought(2), 0);
        searchesBehindMarks();
        FeignedSuit y = suit(new String[] {"give B"}, "have A", "B");
        due("mark ahead of any search", y.mark(1), 1);
        y.search(0, 0, 0, -1);
        y.go(1);
        due("back to no search", y.back(1), 1);
        due("sought", y.sought(0), 0);
        due("sought", y.sought(1), 0);
        due("sought", y.sought(2), 0);
        due("sought", y.sought(3), -1);
        due("go", y.go(1), -1);
        due("met", y.met(0), -1);
        due("row", y.row(0), -1);
    }

    private static void searchesBehindMarks() {
        FeignedSuit x = suit(new String[] {"give B", "end B;give A", "give C", "need B and C;give D"}, "have A", "X");
        Told.tell(x, GIFT, "have B;stop C");
        Told.tell(x, WISH, "B");
        x.open(2, 5, 5);
        x.open(3, 5, 5);
        x.search(0, 0, 5, -1);
        due("go", x.go(1), 1);
        due("met", x.sought(1), 3);
        x.mark(2);
        x.search(1, 1, 0, 1 << 20);
        x.back(2);
        due("the states met are met still", x.go(9), 5);
        due("none twice", x.sought(1), 6);
        due("none leads", x.sought(0), 3);
        int[] states = {1, 3, 5, 7, 15, 13};
        for (int k = 0; k < states.length; k++) {
            due("by gift and year of the mark's search, met(" + k + ")", x.met(k), states[k]);
        }
        x.back(2);
        x.search(0, 0, 0, -1);
        due("a new search in another year", x.go(9), 2);
        due("has none of the old states", x.sought(1), 2);
    }

    private static void counts() {
        FeignedSuit x = suit(new String[] {"give A", "give B", "give C"}, "have A", "B");
        Told.tell(x, WISH, "B");
        x.roll(0, 0);
        x.feed(0, 0, 0, 0, 0);
        int[] want = {3, 1, 2, 0, 1, 20};
        for (int what = 0; what < want.length; what++) {
            due("count(" + what + ")", x.count(what), want[what]);
        }
        for (int what : new int[] {-1, 6, LOW, HIGH}) {
            due("count(" + what + ")", x.count(what), -1);
        }
    }
}
