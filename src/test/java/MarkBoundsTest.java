/** Sentences of the document that name bounds of marks and counts (promises 32 to 34). */
public final class MarkBoundsTest {
    private static final int MOVE = Suits.MOVE;
    private static final int GIFT = Suits.GIFT;
    private static final int WISH = Suits.WISH;
    private static final int STOP = Suits.STOP;

    public static void main(String[] args) {
        marksZeroToThree();
        markRefused();
        backNeverMade();
        backRefused();
        backTwice();
        markMadeAgain();
        textsToldSinceAreGone();
        whateverWasToldInTheirPlaces();
        textsThereWereAreThereAgain();
        yearsAsTheyWere();
        forceAsItWas();
        holdersAsTheyWere();
        rollsAsTheyWere();
        rollsInTheirPlaces();
        searchAsItWas();
        searchByItsOwnTerms();
        rowAsItWas();
        searchSpentAsItWas();
        noSearchAsItWas();
        tapeStays();
        marksStay();
        fullSuitBack();
        counts();
        countRefused();
        Due.close();
    }

    private static void marksZeroToThree() {
        Due.says("A MARK is made: how many MOVES there are; NONE without it.");
        FeignedSuit x = new FeignedSuit();
        Due.is("mark without moves", x.mark(0), 0);
        for (int i = 1; i <= 3; i++) {
            Told.tell(x, MOVE, "give " + Suits.letter(i));
            Due.is("mark(" + i + ")", x.mark(i), i);
        }
        for (int i = 3; i >= 0; i--) {
            Due.is("back(" + i + ")", x.back(i), i);
            Due.is("moves then", x.count(MOVE), i);
        }
        for (int i = 0; i <= 3; i++) {
            Due.is("back(" + i + ") again", x.back(i), i);
        }
    }

    private static void markRefused() {
        Due.says("A MARK is made: how many MOVES there are; NONE without it.");
        for (int k : new int[] {-1, 4, 5, -4}) {
            House.leavesNoTrace("mark(" + k + ")", h -> h.mark(k), -1);
        }
        for (int k : Suits.FAR) {
            House.leavesNoTrace("mark(" + k + ")", h -> h.mark(k), -1);
        }
    }

    private static void backNeverMade() {
        Due.says("NONE, and nothing happens, if it was never made, or without it.");
        House.leavesNoTrace("back(0)", h -> h.back(0), -1);
        House.leavesNoTrace("back(3)", h -> h.back(3), -1);
        FeignedSuit x = new FeignedSuit();
        for (int made = 0; made < 4; made++) {
            for (int k = made; k < 4; k++) {
                Due.is("back(" + k + ") when " + made + " are made", x.back(k), -1);
            }
            x.mark(made);
            Due.is("back(" + made + ")", x.back(made), 0);
        }
        // What was refused made none.
        FeignedSuit y = new FeignedSuit();
        y.mark(4);
        y.mark(-1);
        for (int k = -1; k <= 4; k++) {
            Due.is("back(" + k + ")", y.back(k), -1);
        }
    }

    private static void backRefused() {
        Due.says("NONE, and nothing happens, if it was never made, or without it.");
        for (int k : new int[] {-1, 4, 5, -2}) {
            House.leavesNoTrace("back(" + k + ")", h -> h.back(k), -1);
        }
        for (int k : Suits.FAR) {
            House.leavesNoTrace("back(" + k + ")", h -> h.back(k), -1);
        }
    }

    private static void backTwice() {
        Due.says("It is gone back to a MARK: how many MOVES there are");
        // Back to where it is changes nothing: the tape beside, furnished() has made mark 2 last.
        House.leavesNoTrace("back(2)", h -> h.back(2), 3);
        FeignedSuit x = Suits.suit(new String[] {"give B"}, "have A", "B");
        x.mark(0);
        for (int i = 0; i < 10; i++) {
            Due.is("a move", Told.tell(x, MOVE, "give C"), 1);
            x.open(0, i, i);
            Due.is("back", x.back(0), 1);
            Due.is("its years are as they were", x.may(0, 2999, 0, 0), 1);
            Due.is("no second move", x.after(1, 0), -1);
        }
    }

    private static void markMadeAgain() {
        Due.says("gone back to, these are as they were");
        FeignedSuit x = Suits.suit(new String[] {"give B"}, "have A", "B");
        x.mark(1);
        Told.tell(x, MOVE, "give C");
        Due.is("the same mark again", x.mark(1), 2);
        Told.tell(x, MOVE, "give D");
        Due.is("back to the later one", x.back(1), 2);
        Due.is("its second move", x.after(1, 0), 4);
    }

    private static void textsToldSinceAreGone() {
        Due.says("(texts told since are gone, those there were are there again, whatever was told in their places)");
        FeignedSuit x = Suits.suit(new String[] {"give A"}, "have X", "A");
        Due.is("stop", Told.tell(x, STOP, "A"), 0);
        x.mark(0);
        Due.is("move", Told.tell(x, MOVE, "give B"), 1);
        Due.is("gift", Told.tell(x, GIFT, "have B"), 1);
        Due.is("wish", Told.tell(x, WISH, "B"), 1);
        Due.is("stop", Told.tell(x, STOP, "B"), 1);
        x.back(0);
        for (int sort = 0; sort < 4; sort++) {
            Due.is("how many of sort " + sort, x.count(sort), 1);
        }
        Due.is("no move 1", x.after(1, 0), -1);
        Due.is("no move 1", x.turned(1, 0), -1);
        Due.is("no move 1", x.open(1, 0, 1), false);
        Due.is("no move 1", x.may(0, 0, 1, 0), -1);
        Due.is("no gift 1", x.first(1), -1);
        Due.is("no gift 1", x.roll(1, 0), -1);
        Due.is("no wish 1", x.wished(1, 2), -1);
        Due.is("no wish 1", x.reached(0, 1, 0), -1);
        Due.is("no stop 1", x.force(2), -1);
        Due.is("the others are there", x.after(0, 0), 1);
        Due.is("the others are there", x.first(0), Suits.X);
        Due.is("the others are there", x.wished(0, 1), 1);
        Due.is("the others are there", x.force(1), 0);
    }

    private static void whateverWasToldInTheirPlaces() {
        Due.says("those there were are there again, whatever was told in their places");
        FeignedSuit x = new FeignedSuit();
        x.mark(0);
        tellAll(x, "A");
        x.mark(1);
        x.back(0);
        tellAll(x, "B");
        x.mark(2);
        x.back(0);
        tellAll(x, "C");
        int[] order = {1, 2, 1, 0, 2, 0, 1};
        for (int k : order) {
            x.back(k);
            Due.is("move of mark " + k, x.after(0, 0), k == 0 ? -1 : k);
            Due.is("turn of mark " + k, x.turned(0, 3), k == 0 ? -1 : 1 << k);
            Due.is("gift of mark " + k, x.first(0), k == 0 ? -1 : k);
            Due.is("wish of mark " + k, x.wished(0, k), k == 0 ? -1 : 1);
            Due.is("wish of mark " + k, x.wished(0, 3 - k), k == 0 ? -1 : 0);
            Due.is("stop of mark " + k, x.force(1), k == 0 ? -1 : 0);
            Due.is("the stop bars", x.may(0, 0, 0, 0), k == 0 ? -1 : 0);
        }
    }

    /** Something of each sort about this right, A or B; the people are 1 or 2. */
    private static void tellAll(FeignedSuit x, String right) {
        Told.tell(x, MOVE, "give " + right + ";turn " + (right.charAt(0) - 'A' + 1) + " if A and B");
        Told.tell(x, GIFT, "have " + right);
        Told.tell(x, WISH, right);
        Told.tell(x, STOP, right);
    }

    private static void textsThereWereAreThereAgain() {
        Due.says("those there were are there again, whatever was told in their places");
        FeignedSuit x = Suits.suit(new String[] {"give A", "give B"}, "have X", "B");
        x.mark(0);
        x.mark(1);
        FeignedSuit y = Suits.suit(new String[] {"give A"}, "have X", "B");
        y.mark(3);
        Told.tell(y, MOVE, "give B");
        y.mark(0);
        y.back(3);
        Due.is("one move", y.count(MOVE), 1);
        Due.is("two moves again", y.back(0), 2);
        Due.is("the second", y.after(1, 0), 2);
        Due.is("reached by it", y.reached(0, 0, 0), 2);
        Due.is("one move again", y.back(3), 1);
        Due.is("not reached without it", y.reached(0, 0, 0), 3);
        Due.is("other objects have marks of their own", x.back(3), -1);
        Due.is("other objects have marks of their own", x.back(1), 2);
    }

    private static void yearsAsTheyWere() {
        Due.says("MOVES, GIFTS, WISHES, STOPS, YEARS of MOVES, STOPS in FORCE, who HOLDS what, ROLLS, the SEARCH, as they "
                + "are");
        FeignedSuit x = Suits.suit(new String[] {"give A", "give B"}, "have X", "B");
        x.open(0, 10, 20);
        x.mark(0);
        x.open(0, 0, 2999);
        x.open(1, 5, 5);
        x.back(0);
        Due.is("ahead of its years", x.may(0, 9, 0, 0), 0);
        Due.is("its first", x.may(0, 10, 0, 0), 1);
        Due.is("its last", x.may(0, 20, 0, 0), 1);
        Due.is("behind its years", x.may(0, 21, 0, 0), 0);
        Due.is("the other in all years", x.may(0, 0, 1, 0), 1);
        Due.is("the other in all years", x.may(0, 2999, 1, 0), 1);
    }

    private static void forceAsItWas() {
        Due.says("STOPS in FORCE, who HOLDS what, ROLLS, the SEARCH, as they are");
        FeignedSuit x = new FeignedSuit();
        for (int i = 0; i < 8; i++) {
            Told.tell(x, STOP, "A");
        }
        x.force(129);
        x.mark(0);
        x.force(255);
        x.back(0);
        Due.is("in force", x.force(0), 129);
        x.mark(1);
        x.force(3);
        x.back(1);
        Due.is("none in force", x.force(5), 0);
        x.back(0);
        Due.is("in force", x.force(0), 129);
    }

    private static void holdersAsTheyWere() {
        Due.says("who HOLDS what, ROLLS, the SEARCH, as they are");
        FeignedSuit x = new FeignedSuit();
        x.holds(0, 15);
        x.holds(23, 0);
        x.mark(0);
        x.holds(0, -1);
        x.holds(23, 9);
        x.holds(12, 4);
        x.back(0);
        Due.is("the first right", x.holds(0, 1), 15);
        Due.is("the last right", x.holds(23, 1), 0);
        Due.is("one that nobody held", x.holds(12, 1), -1);
        x.back(0);
        Due.is("the first right again", x.holds(0, 1), 15);
    }

    private static void rollsAsTheyWere() {
        Due.says("ROLLS, the SEARCH, as they are");
        FeignedSuit x = Suits.suit(new String[] {"give A;fee 1", "give B;fee 10"}, "have X", "B");
        Told.tell(x, GIFT, "have W");
        x.roll(0, 0);
        x.enter(0, 0);
        x.mark(0);
        for (int i = 1; i < 30; i++) {
            Due.is("roll", x.roll(1, 5), i);
        }
        for (int i = 2; i <= 24; i++) {
            Due.is("enter", x.enter(0, 1), i);
        }
        x.back(0);
        Due.is("one roll", x.count(4), 1);
        Due.is("no roll 1", x.judged(1, 0), -1);
        Due.is("its one move", x.judged(0, 0), 1);
        Due.is("its fee", x.costs(0, 0), 1);
        Due.is("a second one", x.enter(0, 1), 2);
        Due.is("its fees", x.costs(0, 0), 11);
        Due.is("another roll in the place of one", x.roll(0, 7), 1);
        Due.is("has no moves", x.judged(1, 0), 0);
        Due.is("has its own gift", x.judged(1, 1), Suits.X);
        Due.is("has room", x.enter(1, 0), 1);
    }

    private static void rollsInTheirPlaces() {
        Due.says("ROLLS, the SEARCH, as they are; gone back to, these are as they were");
        FeignedSuit x = Suits.suit(new String[] {"give A", "give B", "give C"}, "have X", "B");
        Told.tell(x, GIFT, "have W");
        x.open(2, 5, 5);
        x.mark(0);
        x.roll(0, 5);
        x.enter(0, 0);
        x.enter(0, 2);
        x.mark(1);
        x.back(0);
        x.roll(1, 4);
        x.enter(0, 1);
        x.enter(0, 1);
        x.enter(0, 2);
        x.mark(2);
        for (int i = 0; i < 2; i++) {
            Due.is("back", x.back(1), 3);
            Due.is("its moves and its year", x.judged(0, 0), 2);
            Due.is("its gift and its moves", x.judged(0, 1), Suits.X | 5);
            Due.is("none behind them", x.enter(0, 1), 3);
            Due.is("back", x.back(2), 3);
            Due.is("its moves", x.judged(0, 0), 1);
            Due.is("its gift and its moves", x.judged(0, 1), 1 << 22 | 2);
            Due.is("none behind them", x.enter(0, 0), 4);
        }
        FeignedSuit y = Suits.suit(new String[] {"give A"}, "have X", "B");
        y.open(0, 5, 5);
        y.mark(0);
        y.roll(0, 5);
        y.enter(0, 0);
        y.mark(1);
        y.back(0);
        y.roll(0, 6);
        y.enter(0, 0);
        Due.is("in another year", y.judged(0, 0), 0);
        y.back(1);
        Due.is("in its year", y.judged(0, 0), 1);
    }

    private static void searchByItsOwnTerms() {
        Due.says("the SEARCH, as they are; gone back to, these are as they were");
        FeignedSuit x = Suits.suit(new String[] {"give B", "give C", "give D"}, "have A", "A");
        Told.tell(x, GIFT, "have A;stop B");
        Told.tell(x, WISH, "C and D");
        x.open(2, 5, 5);
        x.search(1, 1, 5, -1);
        x.mark(0);
        x.search(0, 0, 4, 0);
        x.back(0);
        Due.is("by its gift, its wish and its year", x.go(4000), 2);
        searchStands(x, 2, 4, 2, 2);
        int[] met = {1, 5, 9, 13};
        for (int k = 0; k < met.length; k++) {
            Due.is("met(" + k + ")", x.met(k), met[k]);
        }
        // Behind another mark's search, too.
        x.search(0, 1, 4, 0);
        x.mark(1);
        x.back(0);
        x.mark(2);
        x.back(1);
        Due.is("go", x.go(4000), 4);
        searchStands(x, 3, 4, 4, -1);
        x.back(2);
        Due.is("go", x.go(4000), 2);
        searchStands(x, 2, 4, 2, 2);
    }

    private static void rowAsItWas() {
        Due.says("the SEARCH, as they are; gone back to, these are as they were");
        FeignedSuit x = Suits.suit(new String[] {"give B", "need B;give C", "need B or D;give D", "need B;give E"},
                "have A", "D");
        Told.tell(x, WISH, "C and E");
        x.search(0, 0, 0, -1);
        x.go(4000);
        x.mark(0);
        x.search(0, 1, 0, -1);
        x.go(4000);
        searchStands(x, 2, 7, 3, 3);
        x.mark(1);
        x.back(0);
        searchStands(x, 2, 4, 2, 2);
        Due.is("row(0)", x.row(0), 0);
        Due.is("row(1)", x.row(1), 2);
        Due.is("row(2)", x.row(2), -1);
        x.back(1);
        Due.is("row(0)", x.row(0), 0);
        Due.is("row(1)", x.row(1), 1);
        Due.is("row(2)", x.row(2), 3);
        x.search(0, 1, 0, 2);
        x.go(4000);
        x.back(0);
        Due.is("row(1)", x.row(1), 2);
    }

    private static void searchAsItWas() {
        Due.says("the SEARCH, as they are; gone back to, these are as they were");
        FeignedSuit x = Suits.suit(new String[] {"need A;give B", "need B;give C", "need C;give D"}, "have A", "D");
        x.search(0, 0, 0, -1);
        x.go(1);
        x.mark(0);
        x.go(4000);
        x.mark(1);
        Due.is("found", x.sought(0), 2);
        x.search(0, 0, 0, 4);
        x.back(0);
        searchStands(x, 1, 2, 1, -1);
        Due.is("the states met", x.met(1), 3);
        Due.is("none more", x.met(2), -1);
        Due.is("goes on from there", x.go(1), 1);
        searchStands(x, 1, 3, 2, -1);
        x.back(1);
        searchStands(x, 2, 4, 3, 3);
        for (int k = 0; k < 3; k++) {
            Due.is("row(" + k + ")", x.row(k), k);
        }
        x.back(0);
        Due.is("goes on again", x.go(4000), 2);
        searchStands(x, 2, 4, 3, 3);
        // The same states are met already, whatever another search met between.
        FeignedSuit y = Suits.suit(new String[] {"end B;give A", "end A;give B"}, "have A", "W");
        y.search(0, 0, 0, -1);
        y.go(1);
        y.mark(0);
        y.search(0, 0, 0, 0);
        y.go(4000);
        y.back(0);
        Due.is("the last state", y.go(4000), 1);
        searchStands(y, 3, 2, 2, -1);
    }

    private static void searchStands(FeignedSuit x, int how, int met, int gone, int row) {
        Due.is("how it stands", x.sought(0), how);
        Due.is("states met", x.sought(1), met);
        Due.is("states gone through", x.sought(2), gone);
        Due.is("moves of its row", x.sought(3), row);
    }

    private static void searchSpentAsItWas() {
        Due.says("the SEARCH, as they are; gone back to, these are as they were");
        FeignedSuit x = Suits.chain(4001, "W", "");
        x.search(0, 0, 0, -1);
        x.go(2000);
        x.mark(0);
        x.go(2000);
        x.mark(1);
        searchStands(x, 4, 4000, 4000, -1);
        x.back(0);
        searchStands(x, 1, 2001, 2000, -1);
        Due.is("the last state met", x.met(2000), Suits.X | 2000);
        Due.is("none more", x.met(2001), -1);
        x.back(1);
        searchStands(x, 4, 4000, 4000, -1);
        Due.is("the last state met", x.met(3999), Suits.X | 3999);
        Due.is("go", x.go(1), 0);
        x.back(0);
        Due.is("go", x.go(1999), 1999);
        searchStands(x, 1, 4000, 3999, -1);
        Due.is("go", x.go(1), 1);
        searchStands(x, 4, 4000, 4000, -1);
    }

    private static void noSearchAsItWas() {
        Due.says("(0 to 2 are 0 ahead of any SEARCH)");
        FeignedSuit x = Suits.suit(new String[] {"give B"}, "have A", "B");
        x.mark(0);
        x.search(0, 0, 0, -1);
        x.go(1);
        x.mark(1);
        x.back(0);
        searchStands(x, 0, 0, 0, -1);
        Due.is("go", x.go(1), -1);
        Due.is("met", x.met(0), -1);
        Due.is("row", x.row(0), -1);
        x.mark(2);
        x.back(1);
        searchStands(x, 2, 2, 1, 1);
        x.back(2);
        searchStands(x, 0, 0, 0, -1);
        Due.is("a search", x.search(0, 0, 0, -1), true);
        Due.is("go", x.go(1), 1);
        searchStands(x, 2, 2, 1, 1);
    }

    private static void tapeStays() {
        Due.says("MARKS 0 to 3: MOVES, GIFTS, WISHES, STOPS, YEARS of MOVES, STOPS in FORCE, who HOLDS what, ROLLS, the "
                + "SEARCH, as they are");
        FeignedSuit x = new FeignedSuit();
        Told.put(x, "A or B");
        x.mark(0);
        Due.is("the tape stays on a mark", x.count(5), 6);
        Told.put(x, "A and B");
        x.back(0);
        Due.is("and is none of what a mark keeps", x.count(5), 7);
        Due.is("text", x.text(WISH), 0);
        Due.is("A and B", x.wished(0, 1), 0);
        x.back(0);
        Due.is("an empty tape stays empty", x.count(5), 0);
    }

    private static void marksStay() {
        Due.says("gone back to, these are as they were");
        FeignedSuit x = new FeignedSuit();
        x.mark(0);
        Told.tell(x, MOVE, "give A");
        x.mark(1);
        x.back(0);
        Due.is("marks are none of what a mark keeps", x.back(1), 1);
        Due.is("its move", x.after(0, 0), 1);
    }

    private static void fullSuitBack() {
        Due.says("those there were are there again");
        FeignedSuit x = new FeignedSuit();
        x.mark(3);
        for (int i = 0; i < 40; i++) {
            Told.tell(x, MOVE, "give " + Suits.letter(i % 24));
        }
        Due.is("mark", x.mark(0), 40);
        Due.is("no room", Told.tell(x, MOVE, "give A"), -1);
        Due.is("back to none", x.back(3), 0);
        Due.is("room again", Told.tell(x, MOVE, "give X"), 0);
        Due.is("back to all", x.back(0), 40);
        Due.is("no room", Told.tell(x, MOVE, "give A"), -1);
        Due.is("move 0", x.after(0, 0), 1);
        Due.is("move 39", x.after(39, 0), 1 << 15);
    }

    private static void counts() {
        Due.says("What 0: MOVES, 1: GIFTS, 2: WISHES, 3: STOPS, 4: ROLLS, 5: bytes of the TAPE.");
        FeignedSuit x = new FeignedSuit();
        String[] texts = {"give A", "have A", "A", "A"};
        int[] most = {40, 8, 16, 8};
        for (int sort = 0; sort < 4; sort++) {
            for (int i = 0; i < most[sort]; i++) {
                Due.is("count(" + sort + ")", x.count(sort), i);
                Told.tell(x, sort, texts[sort]);
            }
            Due.is("count(" + sort + ")", x.count(sort), most[sort]);
            Told.tell(x, sort, texts[sort]);
            Due.is("count(" + sort + ") behind a text too many", x.count(sort), most[sort]);
        }
        for (int i = 0; i < 31; i++) {
            Due.is("count(4)", x.count(4), Math.min(i, 30));
            x.roll(7, 0);
        }
        x.end(0);
        for (int i = 0; i < 22; i++) {
            Due.is("count(5)", x.count(5), Math.min(20 * i, 400));
            x.feed(0, 0, 0, 0, 0);
        }
        x.end(399);
        Due.is("count(5)", x.count(5), 399);
    }

    private static void countRefused() {
        Due.says("NONE for others.");
        for (int what : new int[] {-1, 6, 7, -2}) {
            House.leavesNoTrace("count(" + what + ")", h -> h.count(what), -1);
        }
        for (int what : Suits.FAR) {
            House.leavesNoTrace("count(" + what + ")", h -> h.count(what), -1);
        }
    }
}
