/** Sentences of the document that name bounds of the tape, of texts and of their faults (promises 2 to 4). */
public final class TextBoundsTest {
    private static final int MOVE = Suits.MOVE;
    private static final int GIFT = Suits.GIFT;
    private static final int WISH = Suits.WISH;
    private static final int STOP = Suits.STOP;
    private static final int[] MOST = {40, 8, 16, 8};
    private static final String[] PLAIN = {"give A", "have A", "A", "A"};

    private static final int WRONG = 0;
    private static final int NUMBER = 1;
    private static final int DEEP = 2;
    private static final int FACTS = 3;
    private static final int CLAUSES = 4;

    public static void main(String[] args) {
        tapeIsFull();
        tapeByBytes();
        tapeIsCut();
        tapeIsText();
        textsOfFourHundredBytes();
        bytesBehindTheEnd();
        faultsLeaveNothing();
        asManyAsCanBe();
        allSortsAtOnce();
        noSuchSort();
        rightsFromAToX();
        rightsInRows();
        clausesTwelveAtMost();
        clausesOfEachSort();
        onceAtMost();
        numbersAsTold();
        numbersInEffect();
        numbersOfDigits();
        countedFacts();
        words();
        blanks();
        tenDeep();
        deepAgain();
        sixtyFacts();
        factsOfClauses();
        firstAlongTheText();
        leastOfOnePlace();
        anyByte();
        howFactsHold();
        howPartsBind();
        Due.close();
    }

    private static void tapeIsFull() {
        Due.says("NONE, and none comes, if it would have more than 400.");
        FeignedSuit x = new FeignedSuit();
        for (int i = 1; i <= 20; i++) {
            Due.is("feed " + i, x.feed(i, i, i, i, i), 20 * i);
        }
        Due.is("the twenty-first", x.feed(0, 0, 0, 0, 0), -1);
        Due.is("bytes then", x.count(5), 400);
        for (int n = 381; n <= 399; n++) {
            FeignedSuit y = new FeignedSuit();
            Told.put(y, Suits.repeated(" ", 400, ""));
            Due.is("end", y.end(n), n);
            Due.is("feed from " + n, y.feed(-1, -1, -1, -1, -1), -1);
            Due.is("bytes then", y.count(5), n);
            Due.is("and all of them blank", y.text(WISH), -2 - (1 + 8 * n));
        }
        Told.put(x, Suits.repeated(" ", 380, ""));
        Due.is("feed from 380", x.feed(0x20202020, 0x20202020, 0x20202020, 0x20202020, 0x20202041), 400);
        Due.is("the last byte is there", x.text(WISH), 0);
        Due.is("and is an A", x.wished(0, 1), 1);
        Due.is("feed behind a text", x.feed(0, 0, 0, 0, 0), 20);
        House.leavesNoTrace("feed on a full tape", TextBoundsTest::withFullTape, h -> h.feed(1, 2, 3, 4, 5), -1);
        House.leavesNoTrace("feed on a tape with 381", TextBoundsTest::withAlmostFullTape,
                h -> h.feed(0x42424242, 0, 0, 0, 0), -1);
    }

    private static FeignedSuit withFullTape() {
        FeignedSuit x = House.furnished();
        Told.put(x, "A and B" + Suits.repeated(" ", 393, ""));
        return x;
    }

    private static FeignedSuit withAlmostFullTape() {
        FeignedSuit x = withFullTape();
        x.end(381);
        return x;
    }

    private static void tapeByBytes() {
        Due.says("Twenty bytes come behind the TAPE, of each number the highest first");
        FeignedSuit x = new FeignedSuit();
        String text = "A or B and C or not ";
        Due.is("feed", x.feed(0x41206F72, 0x20422061, 0x6E642043, 0x206F7220, 0x6E6F7420), 20);
        Due.is("feed behind", x.feed(0x44000000, 0, 0, 0, 0), 40);
        Due.is("end", x.end(21), 21);
        Due.is("text " + text + "D", x.text(WISH), 0);
        for (int state = 0; state < 16; state++) {
            boolean want = (state & 1) != 0 || (state & 6) == 6 || (state & 8) == 0;
            Due.is("wished of " + state, x.wished(0, state), want ? 1 : 0);
        }
        // The k-th of twenty bytes, one with its highest bit set among blanks, is a fault at its own place.
        for (int k = 0; k < 20; k++) {
            int[] n = {0x20202020, 0x20202020, 0x20202020, 0x20202020, 0x20202020};
            int shift = 24 - 8 * (k % 4);
            n[k / 4] = n[k / 4] & ~(255 << shift) | 0xA0 << shift;
            Due.is("feed", x.feed(n[0], n[1], n[2], n[3], n[4]), 20);
            Due.is("byte 160 at " + k, x.text(WISH), -2 - (1 + 8 * k));
        }
    }

    private static void tapeIsCut() {
        Due.says("The TAPE has its first n bytes alone: n; NONE, and nothing happens, if it has not so many, or n is "
                + "below 0.");
        FeignedSuit x = new FeignedSuit();
        Due.is("end(0) of an empty tape", x.end(0), 0);
        Due.is("end(1) of an empty tape", x.end(1), -1);
        Due.is("end(-1) of an empty tape", x.end(-1), -1);
        Told.put(x, "A and B or C");
        Due.is("end(12), as many as it has", x.end(12), 12);
        Due.is("end(13)", x.end(13), -1);
        Due.is("end(12) again", x.end(12), 12);
        Due.is("end(7)", x.end(7), 7);
        Due.is("end(12), though they were there", x.end(12), -1);
        Due.is("end(8)", x.end(8), -1);
        Due.is("the first bytes are those that stay", x.text(WISH), 0);
        Due.is("A and B", x.wished(0, 3), 1);
        Due.is("not C", x.wished(0, 4), 0);
        Told.put(x, Suits.repeated(" ", 400, ""));
        Due.is("end(401)", x.end(401), -1);
        Due.is("end(400)", x.end(400), 400);
        Due.is("end(399)", x.end(399), 399);
        Due.is("end(400)", x.end(400), -1);
        for (int n : new int[] {-1, -7, 8, 20, 400, 401}) {
            House.leavesNoTrace("end(" + n + ")", h -> h.end(n), -1);
        }
        for (int n : Suits.FAR) {
            House.leavesNoTrace("end(" + n + ")", h -> h.end(n), -1);
        }
    }

    /** What was cut off is not looked at, whatever it was. */
    private static void bytesBehindTheEnd() {
        Due.says("The TAPE has its first n bytes alone");
        String[] texts = {"need A and not of BC<=2;give AB;end C;days 12;fee 345;lend 6;turn 7 if [A or B]",
            "have AB;stop of AB>=1 or not [A and B]", "not [A or of BC<=12] and D", "of A>1 or B and not C"};
        String[] behind = {"", "=", "1", "a", "s", "A", " ", ";", "]", "not A", "\u00ff"};
        for (int sort = 0; sort < 4; sort++) {
            for (int n = 0; n <= texts[sort].length(); n++) {
                String kept = texts[sort].substring(0, n);
                int want = Told.tell(new FeignedSuit(), sort, kept);
                for (String cut : behind) {
                    FeignedSuit x = new FeignedSuit();
                    Told.put(x, kept + cut);
                    Due.is("end", x.end(n), n);
                    Due.is("'" + kept + "' with '" + cut + "' cut off", x.text(sort), want);
                }
            }
        }
        // At the end of a full tape there is nothing behind.
        String blanks = Suits.repeated(" ", 397, "");
        Told.faulty(WISH, blanks + "not", 400, WRONG);
        Told.faulty(WISH, blanks + "A<=", 398, WRONG);
        Told.faulty(WISH, Suits.repeated(" ", 395, "") + "of A<", 400, WRONG);
        Told.good(WISH, Suits.repeated(" ", 393, "") + "of A>12");
    }

    private static void faultsLeaveNothing() {
        Due.says("-2 - its FAULT");
        String[] faulty = {"not", "not not not", "[", "[[not [", "A or", "A or [B and", "not [A or B and not", "A and B or",
            "of A<", "of AB > 25", "[[[[[[[[[[[", "[A", "not A or not [B and C", Suits.repeated("A", 61, "or "), "days"};
        for (String text : faulty) {
            FeignedSuit x = new FeignedSuit();
            for (int sort = 0; sort < 4; sort++) {
                String whole = sort == MOVE ? "give AB;days 1;fee 1;turn 1 if " + text
                        : sort == GIFT ? "have AB;stop " + text : text;
                Due.is("fault of '" + whole + "'", Told.tell(x, sort, whole) < -2, true);
                Due.is("none told", x.count(sort), 0);
            }
            Due.is("a wish behind '" + text + "'", Told.tell(x, WISH, "A or B and C"), 0);
            for (int state = 0; state < 8; state++) {
                boolean want = (state & 1) != 0 || (state & 6) == 6;
                Due.is("of " + state + " behind '" + text + "'", x.wished(0, state), want ? 1 : 0);
            }
            Due.is("a move behind '" + text + "'", Told.tell(x, MOVE, "need C;give D;turn 3 if B;days 2;fee 2"), 0);
            Due.is("what it gives", x.after(0, 4), 12);
            Due.is("who could turn", x.turned(0, 3), 8);
            Due.is("a gift behind '" + text + "'", Told.tell(x, GIFT, "have C;stop A"), 0);
            Due.is("its first state", x.first(0), 4);
            Due.is("its stop", x.may(0, 0, 0, 5), 0);
            Due.is("no other stop", x.may(0, 0, 0, 6), 1);
        }
    }

    private static void tapeIsText() {
        Due.says("The TAPE, which is empty then, is a text");
        for (int sort = 0; sort < 4; sort++) {
            FeignedSuit x = new FeignedSuit();
            Due.is("an empty text of sort " + sort, x.text(sort), -3);
            Due.is("a text", Told.tell(x, sort, PLAIN[sort]), 0);
            Due.is("the tape behind it", x.count(5), 0);
            Due.is("the tape is no text twice", x.text(sort), -3);
            Due.is("a text with a fault", Told.tell(x, sort, "?"), -3);
            Due.is("the tape behind it", x.count(5), 0);
            Due.is("the next one has the next number", Told.tell(x, sort, PLAIN[sort]), 1);
            Due.is("feed begins at its first byte", x.feed(0, 0, 0, 0, 0), 20);
        }
    }

    private static void textsOfFourHundredBytes() {
        Due.says("Texts, of at most 400 bytes each.");
        String blanks = Suits.repeated(" ", 399, "");
        Told.good(WISH, blanks + "A");
        Told.good(WISH, "A" + blanks);
        Told.faulty(WISH, blanks + "Y", 399, WRONG);
        Told.faulty(WISH, blanks + " ", 400, WRONG);
        Told.faulty(WISH, "not" + Suits.repeated(" ", 397, ""), 400, WRONG);
        Told.faulty(WISH, "of A=" + Suits.repeated("1", 395, ""), 5, NUMBER);
        Told.faulty(WISH, Suits.repeated("a", 400, ""), 0, WRONG);
        Told.faulty(MOVE, "give " + Suits.repeated("A", 394, "") + ";", 400, WRONG);
        String full = "give " + Suits.repeated("A", 389, "") + ";end B";
        Due.is("a move of so many bytes", full.length(), 400);
        FeignedSuit x = new FeignedSuit();
        Due.is("the move", Told.tell(x, MOVE, full), 0);
        Due.is("its last byte counts", x.after(0, 2), 1);
        // Behind a longer text a shorter one has nothing of it.
        Due.is("a short text", Told.tell(x, WISH, "X"), 0);
        Due.is("and the end of one", Told.tell(x, WISH, "X or"), -2 - (1 + 8 * 4));
    }

    private static void asManyAsCanBe() {
        Due.says("NONE, and nothing happens: there are as many as can be, or no such sort.");
        for (int sort = 0; sort < 4; sort++) {
            FeignedSuit x = full(sort);
            Due.is("how many of sort " + sort, x.count(sort), MOST[sort]);
            Due.is("one more", Told.tell(x, sort, PLAIN[sort]), -1);
            Due.is("how many then", x.count(sort), MOST[sort]);
            Due.is("the tape stays", x.count(5), PLAIN[sort].length());
            Due.is("again", x.text(sort), -1);
            Due.is("and as another sort it is a text", x.text(sort == WISH ? STOP : sort == STOP ? WISH : sort),
                    sort >= 2 ? 0 : -1);
            Due.is("one more with a fault", Told.tell(x, sort, "?"), -1);
            Due.is("the tape stays", x.count(5), 1);
            Due.is("one more without bytes", Told.tell(x, sort, ""), -1);
            int last = sort;
            House.leavesNoTrace("a text too many of sort " + sort, () -> full(last), h -> h.text(last), -1);
            for (int other = 0; other < 4; other++) {
                if (other != sort) {
                    Due.is("of others there is room", Told.tell(x, other, PLAIN[other]), sort >= 2 && other >= 2 ? 1 : 0);
                }
            }
        }
        FeignedSuit x = full(MOVE);
        Due.is("move 39", x.after(39, 0), 1);
        Due.is("move 40", x.after(40, 0), -1);
        x = full(GIFT);
        Due.is("gift 7", x.first(7), 1);
        Due.is("gift 8", x.first(8), -1);
        x = full(WISH);
        Due.is("wish 15", x.wished(15, 1), 1);
        Due.is("wish 16", x.wished(16, 1), -1);
        x = full(STOP);
        Due.is("stop 7", x.force(128), 0);
        Due.is("stop 8", x.force(256), -1);
    }

    private static FeignedSuit full(int sort) {
        FeignedSuit x = new FeignedSuit();
        for (int i = 0; i < MOST[sort]; i++) {
            Due.is("text " + i + " of sort " + sort, Told.tell(x, sort, PLAIN[sort]), i);
        }
        Told.put(x, "A and B");
        return x;
    }

    /** A suit that is full of all sorts, and each text in its own place. */
    private static void allSortsAtOnce() {
        Due.says("MOVES 0 to 39: CLAUSE { ; CLAUSE }");
        FeignedSuit x = new FeignedSuit();
        for (int i = 0; i < 40; i++) {
            if (i < 8) {
                Due.is("gift", Told.tell(x, GIFT, "have " + Suits.letter(i)), i);
                Due.is("stop", Told.tell(x, STOP, "" + Suits.letter(i)), i);
            }
            if (i < 16) {
                Due.is("wish", Told.tell(x, WISH, "" + Suits.letter(i)), i);
            }
            Due.is("move", Told.tell(x, MOVE, "give " + Suits.letter(i % 24) + ";turn " + i % 16), i);
        }
        for (int i = 0; i < 40; i++) {
            if (i < 8) {
                Due.is("gift " + i, x.first(i), 1 << i);
                Due.is("stop " + i, x.force(1 << i), i == 0 ? 0 : 1 << i - 1);
                Due.is("it bars", x.may(0, 0, i, 0), 0);
                Due.is("and nothing else", x.may(0, 0, i + 1, 0), 1);
            }
            if (i < 16) {
                Due.is("wish " + i, x.wished(i, 1 << i), 1);
            }
            Due.is("move " + i, x.after(i, 0), 1 << i % 24);
            Due.is("who could turn at move " + i, x.turned(i, 0), 1 << i % 16);
        }
    }

    private static void noSuchSort() {
        Due.says("sort 0: a MOVE, 1: a GIFT, 2: a WISH, 3: a STOP");
        for (int sort : new int[] {-1, 4, 5, -2}) {
            House.leavesNoTrace("text(" + sort + ")", h -> h.text(sort), -1);
        }
        for (int sort : Suits.FAR) {
            House.leavesNoTrace("text(" + sort + ")", h -> h.text(sort), -1);
        }
        for (int sort = 0; sort < 4; sort++) {
            for (int other = 0; other < 4; other++) {
                Due.is("sort " + other + " told as sort " + sort, Told.tell(new FeignedSuit(), sort, PLAIN[other]),
                        sort == other || sort >= 2 && other >= 2 ? 0 : -3);
            }
        }
    }

    private static void rightsFromAToX() {
        Due.says("RIGHTS A to X (RIGHT A is bit 0 of a number, X bit 23).");
        for (int i = 0; i < 24; i++) {
            FeignedSuit x = new FeignedSuit();
            char right = Suits.letter(i);
            Due.is("a gift", Told.tell(x, GIFT, "have " + right), 0);
            Due.is("its right", x.first(0), 1 << i);
            Due.is("a wish", Told.tell(x, WISH, "" + right), 0);
            Due.is("holds of it", x.wished(0, 1 << i), 1);
            Due.is("and not of all others", x.wished(0, Suits.ALL_RIGHTS - (1 << i)), 0);
            Due.is("a counted wish", Told.tell(x, WISH, "of " + right + "=1"), 1);
            Due.is("holds of it", x.wished(1, 1 << i), 1);
            Due.is("and not of all others", x.wished(1, Suits.ALL_RIGHTS - (1 << i)), 0);
            Due.is("a move", Told.tell(x, MOVE, "give " + right), 0);
            Due.is("gives it", x.after(0, 0), 1 << i);
            Due.is("a move", Told.tell(x, MOVE, "end " + right), 1);
            Due.is("ends it", x.after(1, Suits.ALL_RIGHTS), Suits.ALL_RIGHTS - (1 << i));
        }
        Due.says("A RIGHT is a capital letter A to X");
        for (String no : new String[] {"@", "Y", "Z", "a", "x", "\u00c1", "\u00d8"}) {
            Told.faulty(WISH, no, 0, WRONG);
            Told.faulty(STOP, "not " + no, 4, WRONG);
            Told.faulty(WISH, "A or " + no, 5, WRONG);
            Told.faulty(WISH, "[" + no + "]", 1, WRONG);
            Told.faulty(WISH, "of " + no + " = 1", 3, WRONG);
            Told.faulty(WISH, "of A" + no + " = 1", 4, WRONG);
            Told.faulty(GIFT, "have " + no, 5, WRONG);
            Told.faulty(GIFT, "stop " + no, 5, WRONG);
            Told.faulty(MOVE, "give X" + no, 6, WRONG);
            Told.faulty(MOVE, "end " + no, 4, WRONG);
            Told.faulty(MOVE, "need " + no, 5, WRONG);
            Told.faulty(MOVE, "turn 0 if " + no, 10, WRONG);
        }
    }

    private static void rightsInRows() {
        Due.says("RIGHTS: RIGHT { RIGHT }.");
        String all = "ABCDEFGHIJKLMNOPQRSTUVWX";
        FeignedSuit x = new FeignedSuit();
        Due.is("all rights", Told.tell(x, GIFT, "have " + all), 0);
        Due.is("first", x.first(0), Suits.ALL_RIGHTS);
        Due.is("each twice", Told.tell(x, GIFT, "have " + all + all), 1);
        Due.is("first", x.first(1), Suits.ALL_RIGHTS);
        Due.is("one", Told.tell(x, GIFT, "have X"), 2);
        Due.is("first", x.first(2), Suits.X);
        Told.faulty(GIFT, "have", 4, WRONG);
        Told.faulty(GIFT, "have ;have A", 5, WRONG);
        Told.faulty(MOVE, "give", 4, WRONG);
        Told.faulty(MOVE, "end", 3, WRONG);
        Told.faulty(MOVE, "end  ", 5, WRONG);
        Told.faulty(WISH, "of", 2, WRONG);
        Told.faulty(WISH, "of = 0", 3, WRONG);
        Told.faulty(GIFT, "have A,B", 6, WRONG);
    }

    private static void clausesTwelveAtMost() {
        Due.says("CLAUSE { ; CLAUSE }, 12 at most");
        Told.good(MOVE, Suits.repeated("give A", 1, ";"));
        Told.good(MOVE, Suits.repeated("give A", 11, ";"));
        Told.good(MOVE, Suits.repeated("give A", 12, ";"));
        Told.good(GIFT, Suits.repeated("have A", 12, ";"));
        FeignedSuit x = new FeignedSuit();
        Due.is("twelve", Told.tell(x, MOVE, Suits.repeated("give A", 11, ";") + ";give B"), 0);
        Due.is("the twelfth counts", x.after(0, 0), 3);
        String turns = "turn 0;turn 1;turn 2;turn 3;turn 4;turn 5;turn 6;turn 7;turn 8;turn 9;turn 10;turn 15 if A";
        Due.is("twelve turns", Told.tell(x, MOVE, turns), 1);
        Due.is("all of them could", x.turned(1, 1), 2047 | 1 << 15);
        Due.is("all but the twelfth could", x.turned(1, 0), 2047);
        Due.is("twelve stops", Told.tell(x, GIFT, Suits.repeated("stop A", 11, ";") + ";stop B"), 0);
        Due.is("the twelfth stops", x.may(0, 0, 0, 8), 0);
        Due.says("4 a thirteenth CLAUSE, or a second days, fee (at its first byte)");
        Told.faulty(MOVE, Suits.repeated("give A", 13, ";"), 12 * 7, CLAUSES);
        Told.faulty(MOVE, Suits.repeated("give A", 12, ";") + ";  give A", 12 * 7 + 2, CLAUSES);
        Told.faulty(MOVE, Suits.repeated("give A", 14, ";"), 12 * 7, CLAUSES);
        Told.faulty(GIFT, Suits.repeated("have A", 13, ";"), 12 * 7, CLAUSES);
        Told.faulty(GIFT, Suits.repeated("stop A", 12, ";") + ";stop", 12 * 7, CLAUSES);
        for (String clause : new String[] {"need A", "give A", "end A", "days 1", "fee 1", "lend 1", "turn 1"}) {
            Told.good(MOVE, Suits.repeated("end A", 11, ";") + ";" + clause);
            Told.faulty(MOVE, Suits.repeated("end A", 12, ";") + ";" + clause, 12 * 6, CLAUSES);
        }
        for (String clause : new String[] {"have A", "stop A"}) {
            Told.good(GIFT, Suits.repeated("stop A", 11, ";") + ";" + clause);
            Told.faulty(GIFT, Suits.repeated("stop A", 12, ";") + ";" + clause, 12 * 7, CLAUSES);
        }
    }

    private static void clausesOfEachSort() {
        Due.says("GIFTS 0 to 7: CLAUSES likewise: have RIGHTS | stop TEST. WISHES 0 to 15 and STOPS 0 to 7: a TEST "
                + "each.");
        for (int sort : new int[] {MOVE, GIFT}) {
            Told.faulty(sort, "", 0, WRONG);
            Told.faulty(sort, ";", 0, WRONG);
            Told.faulty(sort, ";" + PLAIN[sort], 0, WRONG);
            Told.faulty(sort, PLAIN[sort] + ";", 7, WRONG);
            Told.faulty(sort, PLAIN[sort] + ";;" + PLAIN[sort], 7, WRONG);
            Told.faulty(sort, PLAIN[sort] + " " + PLAIN[sort], 7, WRONG);
        }
        Due.says("CLAUSE: need TEST | give RIGHTS | end RIGHTS | days NUMBER");
        for (String word : new String[] {"have", "stop", "if", "and", "or", "not", "of", "needs", "nee", "x"}) {
            Told.faulty(MOVE, word + " A", 0, WRONG);
            Told.faulty(MOVE, "give A;" + word + " A", 7, WRONG);
        }
        Due.says("CLAUSES likewise: have RIGHTS | stop TEST.");
        for (String word : new String[] {"need", "give", "end", "days", "fee", "lend", "turn", "if", "haves", "sto"}) {
            Told.faulty(GIFT, word + " A", 0, WRONG);
            Told.faulty(GIFT, "have A;" + word + " A", 7, WRONG);
        }
        Due.says("WISHES 0 to 15 and STOPS 0 to 7: a TEST each.");
        for (int sort : new int[] {WISH, STOP}) {
            Told.faulty(sort, "A;B", 1, WRONG);
            Told.faulty(sort, "A B", 2, WRONG);
            Told.faulty(sort, "A]", 1, WRONG);
            Told.faulty(sort, "stop A", 0, WRONG);
            Told.faulty(sort, "A if B", 2, WRONG);
        }
        Due.says("turn NUMBER (0 to 15) [ if TEST ]");
        Told.good(MOVE, "turn 0");
        Told.good(MOVE, "turn 0 if A");
        Told.faulty(MOVE, "turn 0 if", 9, WRONG);
        Told.faulty(MOVE, "turn 0 if ;give A", 10, WRONG);
        Told.faulty(MOVE, "turn 0 iff A", 7, WRONG);
        Told.faulty(MOVE, "turn 0 if A if B", 12, WRONG);
        Told.faulty(MOVE, "lend 0 if A", 7, WRONG);
        Told.faulty(MOVE, "give A if A", 7, WRONG);
    }

    private static void onceAtMost() {
        Due.says("days and fee once at most each.");
        Told.good(MOVE, "days 1;fee 1");
        Told.good(MOVE, "fee 1;days 1");
        Told.faulty(MOVE, "days 1;days 1", 7, CLAUSES);
        Told.faulty(MOVE, "fee 1;fee 1", 6, CLAUSES);
        Told.faulty(MOVE, "days 0;days 0", 7, CLAUSES);
        Told.faulty(MOVE, "fee 0;  fee 0", 8, CLAUSES);
        Told.faulty(MOVE, "days 1;fee 1;days 1;fee 1", 13, CLAUSES);
        Told.faulty(MOVE, "days 1;fee 1;fee 1;days 1", 13, CLAUSES);
        Told.faulty(MOVE, "days 1;days 1000", 7, CLAUSES);
        Told.faulty(MOVE, "fee 1;fee", 6, CLAUSES);
        Told.faulty(MOVE, "days 1000;days 1", 5, NUMBER);
        Told.good(MOVE, "need A;need A;give A;give A;end A;end A;lend 1;lend 1;turn 1;turn 1");
        FeignedSuit x = new FeignedSuit();
        Due.is("a second fee", Told.tell(x, MOVE, "fee 1;fee 1"), -2 - (1 + 8 * 6 + 4));
        Due.is("a text of its own may have one again", Told.tell(x, MOVE, "fee 1;days 1"), 0);
        Due.is("and another one too", Told.tell(x, MOVE, "fee 1;days 1"), 1);
    }

    private static void numbersAsTold() {
        Due.says("days NUMBER (0 to 999) | fee NUMBER (0 to 9999) | lend NUMBER (0 to 15) | turn NUMBER (0 to 15) "
                + "[ if TEST ]");
        String[] words = {"days", "fee", "lend", "turn"};
        int[] most = {999, 9999, 15, 15};
        for (int i = 0; i < words.length; i++) {
            int place = words[i].length() + 1;
            for (int n = 0; n <= most[i]; n += n < 20 || n >= most[i] - 20 ? 1 : 37) {
                Due.is(words[i] + " " + n, Told.tell(new FeignedSuit(), MOVE, words[i] + " " + n), 0);
            }
            Told.good(MOVE, words[i] + " " + most[i]);
            Told.faulty(MOVE, words[i] + " " + (most[i] + 1), place, NUMBER);
            Told.faulty(MOVE, words[i] + " 99999", place, NUMBER);
            Told.faulty(MOVE, words[i] + "-1", words[i].length(), WRONG);
            Told.faulty(MOVE, words[i] + " +1", place, WRONG);
            Told.faulty(MOVE, words[i], words[i].length(), WRONG);
            Told.faulty(MOVE, words[i] + " ;give A", place, WRONG);
            Told.faulty(MOVE, words[i] + " A", place, WRONG);
        }
        Told.faulty(MOVE, "turn 16 if A", 5, NUMBER);
        Told.good(MOVE, "turn 15 if A");
    }

    private static void numbersInEffect() {
        Due.says("COSTS: fees and days of its MOVES that may be made together.");
        FeignedSuit x = Suits.suit(new String[] {"give A;days 999;fee 9999;lend 15;turn 15;turn 0",
            "give B;days 00000;fee 0;lend 0"}, "have X", "A");
        x.roll(0, 0);
        x.enter(0, 0);
        Due.is("fee 9999", x.costs(0, 0), 9999);
        Due.is("days 999", x.costs(0, 1), 999);
        x.enter(0, 1);
        Due.is("fee 0", x.costs(0, 0), 9999);
        Due.is("days 0", x.costs(0, 1), 999);
        Due.is("turn 15 and 0", x.turned(0, 0), 1 << 15 | 1);
        Due.is("lend 15", x.fewest(0, 0, 0, 1), 1 << 15);
        Due.is("a wish", Told.tell(x, WISH, "B"), 1);
        Due.is("lend 0", x.fewest(0, 1, 0, 1), 1);
    }

    private static void numbersOfDigits() {
        Due.says("a NUMBER 1 to 5 digits, as far as digits go on");
        Told.good(MOVE, "days 7");
        Told.good(MOVE, "days 00007");
        Told.good(MOVE, "fee 09999");
        Told.good(WISH, "of A = 00024");
        Due.says("1 a NUMBER of more digits, or not as told");
        Told.faulty(MOVE, "days 000007", 5, NUMBER);
        Told.faulty(MOVE, "fee 009999", 4, NUMBER);
        Told.faulty(MOVE, "lend 000000", 5, NUMBER);
        Told.faulty(MOVE, "turn  000000 if Y", 6, NUMBER);
        Told.faulty(WISH, "of A = 000000", 7, NUMBER);
        // Numbers that would be small ones if they went round.
        for (String far : new String[] {"65536", "100000", "4294967296", "4294967297", "18446744073709551616",
            "99999999999999999999999999"}) {
            Told.faulty(MOVE, "days " + far, 5, NUMBER);
            Told.faulty(WISH, "of A = " + far, 7, NUMBER);
        }
        Told.faulty(MOVE, "days 1 2", 7, WRONG);
        Told.faulty(MOVE, "days 1A", 6, WRONG);
        Told.faulty(MOVE, "days 00001 000002", 11, WRONG);
        FeignedSuit x = Suits.suit(new String[] {"give A;fee 00123;days 00045"}, "have X", "A");
        x.roll(0, 0);
        x.enter(0, 0);
        Due.is("zeros ahead do not count", x.costs(0, 0), 123);
        Due.is("zeros ahead do not count", x.costs(0, 1), 45);
    }

    private static void countedFacts() {
        Due.says("of RIGHTS SIGN NUMBER (0 to 24), SIGN one of < <= = >= >.");
        String all = "ABCDEFGHIJKLMNOPQRSTUVWX";
        String[] signs = {"<", "<=", "=", ">=", ">"};
        for (String sign : signs) {
            Told.good(WISH, "of A " + sign + " 0");
            Told.good(WISH, "of A " + sign + " 24");
            Told.faulty(WISH, "of A " + sign + " 25", 6 + sign.length(), NUMBER);
            Told.faulty(WISH, "of A " + sign, 5 + sign.length(), WRONG);
        }
        int[] states = {0, 1, Suits.X, 255, 16777214, Suits.ALL_RIGHTS};
        int[] bounds = {0, 1, 2, 8, 22, 23, 24};
        for (int state : states) {
            int has = Integer.bitCount(state);
            for (int n : bounds) {
                boolean[] want = {has < n, has <= n, has == n, has >= n, has > n};
                for (int i = 0; i < signs.length; i++) {
                    Told.holdsOf("of " + all + signs[i] + n, state, want[i] ? 1 : 0);
                }
            }
        }
        Told.faulty(WISH, "of A <> 1", 6, WRONG);
        Told.faulty(WISH, "of A =< 1", 6, WRONG);
        Told.faulty(WISH, "of A == 1", 6, WRONG);
        Told.faulty(WISH, "of A >> 1", 6, WRONG);
        Told.faulty(WISH, "of A > = 1", 7, WRONG);
        Told.faulty(WISH, "of A <= = 1", 8, WRONG);
        Told.faulty(WISH, "of A 1", 5, WRONG);
        Told.faulty(WISH, "of A", 4, WRONG);
        Told.faulty(WISH, "of A and B", 5, WRONG);
        Told.faulty(WISH, "of [A] = 1", 3, WRONG);
        Told.faulty(WISH, "of not A = 1", 3, WRONG);
        Told.faulty(WISH, "of A = 1 = 1", 9, WRONG);
        Told.good(WISH, "ofA<1and ofB>=2or of C D>0");
    }

    private static void words() {
        Due.says("a WORD small letters, as far as these go on.");
        Told.good(MOVE, "needA;giveB;endC;days1;fee2;lend3;turn4if A");
        Told.good(WISH, "AorB andC");
        Told.good(WISH, "not[A]or[B]and not ofC=1");
        Told.faulty(WISH, "notnot A", 0, WRONG);
        Told.faulty(WISH, "nota", 0, WRONG);
        Told.faulty(WISH, "notof A=1", 0, WRONG);
        Told.faulty(WISH, "A ornot B", 2, WRONG);
        Told.faulty(WISH, "A andof B=1", 2, WRONG);
        Told.faulty(WISH, "A an B", 2, WRONG);
        Told.faulty(WISH, "A ands B", 2, WRONG);
        Told.faulty(WISH, "A o", 2, WRONG);
        Told.faulty(WISH, "o", 0, WRONG);
        Told.faulty(WISH, "no", 0, WRONG);
        Told.faulty(WISH, "ofz A=1", 0, WRONG);
        Told.faulty(WISH, "A AND B", 2, WRONG);
        // N is a right.
        Told.faulty(WISH, "Not A", 1, WRONG);
        Told.faulty(WISH, "nOt A", 0, WRONG);
        Told.faulty(MOVE, "needs A", 0, WRONG);
        Told.faulty(MOVE, "neednot A", 0, WRONG);
        Told.faulty(MOVE, "turn 1 ifnot A", 7, WRONG);
        // Bytes beside a and z are no small letters, so that the word ends ahead of them.
        Told.faulty(WISH, "not`A", 3, WRONG);
        Told.faulty(WISH, "not{A", 3, WRONG);
        Told.faulty(MOVE, "need`", 4, WRONG);
        Told.faulty(MOVE, "need{", 4, WRONG);
        Told.faulty(MOVE, "needz", 0, WRONG);
        Told.faulty(MOVE, "needa", 0, WRONG);
        Told.faulty(WISH, "A and\u00e9 B", 5, WRONG);
    }

    private static void blanks() {
        Due.says("Blanks (32) stand between as one likes (between RIGHTS, too).");
        Told.good(MOVE, "   need   A   ;  give   A  B   C ;turn  1   if   [   A   ]   ");
        Told.good(WISH, "of A  B C   <=   2");
        Told.good(WISH, "  not   not   [  A  ]  and   B  or  C  ");
        FeignedSuit x = new FeignedSuit();
        Due.is("rights with blanks", Told.tell(x, GIFT, " have A  C X "), 0);
        Due.is("first", x.first(0), 5 | Suits.X);
        for (String no : new String[] {"\t", "\n", "\r", "\0", "\u001f", "!", "\u00a0", "\u0080"}) {
            Told.faulty(WISH, no + "A", 0, WRONG);
            Told.faulty(WISH, "A" + no, 1, WRONG);
            Told.faulty(WISH, "not" + no + "A", 3, WRONG);
            Told.faulty(GIFT, "have A" + no + "B", 6, WRONG);
            Told.faulty(MOVE, "days" + no + "1", 4, WRONG);
            Told.faulty(MOVE, "days 1" + no, 6, WRONG);
        }
        Told.faulty(WISH, "n ot A", 0, WRONG);
        Told.faulty(MOVE, "ne ed A", 0, WRONG);
        Told.faulty(MOVE, "fee 1 0", 6, WRONG);
        Told.faulty(WISH, "of A < = 1", 7, WRONG);
    }

    /** All ways in which brackets and nots lie within one another, ten and eleven deep. */
    private static void tenDeep() {
        Due.says("[ and not lie within one another 10 deep at most");
        for (int way = 0; way < 1024; way++) {
            String open = opening(way, 10);
            String close = Suits.repeated("]", Integer.bitCount(way), "");
            FeignedSuit x = new FeignedSuit();
            Due.is(open + "A" + close, Told.tell(x, WISH, open + "A" + close), 0);
            int nots = 10 - Integer.bitCount(way);
            Due.is("wished of A by '" + open + "'", x.wished(0, 1), nots % 2 == 0 ? 1 : 0);
            Due.is("wished of nothing by '" + open + "'", x.wished(0, 0), nots % 2 == 0 ? 0 : 1);
        }
        Due.says("2 too deep (at the sign that opens, or the word not)");
        for (int way = 0; way < 1024; way++) {
            String open = opening(way, 10);
            String close = Suits.repeated("]", Integer.bitCount(way), "");
            int want = -2 - (1 + 8 * open.length() + DEEP);
            FeignedSuit x = new FeignedSuit();
            Due.is(open + "[A]" + close, Told.tell(x, WISH, open + "[A]" + close), want);
            Due.is(open + "not A" + close, Told.tell(x, WISH, open + "not A" + close), want);
            Due.is(open + "[", Told.tell(x, WISH, open + "["), want);
            Due.is(open + "not", Told.tell(x, WISH, open + "not"), want);
        }
    }

    /** Bit k of the way: the k-th opens by a bracket. */
    private static String opening(int way, int depth) {
        StringBuilder b = new StringBuilder();
        for (int k = 0; k < depth; k++) {
            b.append((way >> k & 1) != 0 ? "[" : "not ");
        }
        return b.toString();
    }

    private static void deepAgain() {
        Due.says("[ and not lie within one another 10 deep at most");
        String nine = Suits.repeated("[", 9, "");
        String nineEnds = Suits.repeated("]", 9, "");
        String ten = "[" + nine + "A]" + nineEnds;
        Told.good(WISH, ten + " and " + ten + " or " + ten + " and not " + nine + "B" + nineEnds);
        Told.good(WISH, "[" + nine + "A]and[B]or[C" + "]" + nineEnds.substring(1) + "]");
        Told.good(WISH, nine + "not A and not B or not C" + nineEnds);
        Told.good(WISH, nine + "not of A=1 and not of B=1 or [C]" + nineEnds);
        Told.faulty(WISH, ten + " and [" + ten, ten.length() + 5 + 10, DEEP);
        Told.faulty(WISH, ten + " and not " + ten, ten.length() + 9 + 9, DEEP);
        Told.faulty(WISH, nine + "not A and not not B" + nineEnds, 9 + 14, DEEP);
        Told.faulty(WISH, nine + "not A and not [B]" + nineEnds, 9 + 14, DEEP);
        Told.faulty(WISH, nine + "[A] and [not B]" + nineEnds, 9 + 9, DEEP);
        // Each test of a clause begins anew.
        Told.good(MOVE, "need " + ten + ";need " + ten + ";turn 1 if " + ten + ";turn 2 if " + ten);
        Told.faulty(MOVE, "need " + ten + ";turn 1 if [" + ten + "]", 5 + ten.length() + 11 + 10, DEEP);
        Told.good(GIFT, "stop " + ten + ";stop " + ten);
        Told.faulty(GIFT, "have A;stop [" + ten + "]", 12 + 10, DEEP);
        Told.faulty(STOP, "not " + ten, 4 + 9, DEEP);
        // A word that only begins like not is no not.
        Told.faulty(WISH, nine + "[nots", 10, WRONG);
        Told.faulty(WISH, nine + "[]", 10, WRONG);
        FeignedSuit x = new FeignedSuit();
        Due.is("too deep", Told.tell(x, WISH, "[" + ten + "]"), -2 - (1 + 8 * 10 + DEEP));
        Due.is("the next text begins anew", Told.tell(x, WISH, ten), 0);
    }

    private static void sixtyFacts() {
        Due.says("at most 60 FACTS that are a RIGHT or begin with of, together.");
        for (int sort : new int[] {WISH, STOP}) {
            Told.good(sort, Suits.repeated("A", 59, "or "));
            Told.good(sort, Suits.repeated("A", 60, "or "));
            Told.good(sort, Suits.repeated("A", 60, "and "));
            Told.good(sort, Suits.repeated("A", 30, "or ") + "or " + Suits.repeated("of A=1", 30, "or "));
            Told.faulty(sort, Suits.repeated("of A=1", 30, "or ") + "or " + Suits.repeated("A", 31, "or "), 390, FACTS);
        }
        Due.says("3 one FACT too many (at its first byte)");
        String sixty = Suits.repeated("A", 60, "or ");
        int behind = sixty.length() + 3;
        for (int sort : new int[] {WISH, STOP}) {
            Told.faulty(sort, Suits.repeated("A", 61, "or "), behind, FACTS);
            Told.faulty(sort, Suits.repeated("A", 61, "or   "), 60 * 6, FACTS);
            Told.faulty(sort, sixty + "or of B=1", behind, FACTS);
            Told.faulty(sort, sixty + "or of", behind, FACTS);
            Told.faulty(sort, sixty + "or   B", behind + 2, FACTS);
            Told.faulty(sort, sixty + "or not B", behind + 4, FACTS);
            Told.faulty(sort, sixty + "or [B]", behind + 1, FACTS);
            Told.faulty(sort, sixty + "or not[not B", behind + 8, FACTS);
            Told.faulty(sort, sixty + "or ", behind, WRONG);
            Told.faulty(sort, sixty + "or Y", behind, WRONG);
            Told.faulty(sort, sixty + "or off", behind, WRONG);
            Told.faulty(sort, sixty + "or ]", behind, WRONG);
            Told.faulty(sort, sixty + "or not", behind + 3, WRONG);
        }
        // Sixty pieces of a test are each looked at.
        FeignedSuit x = new FeignedSuit();
        Due.is("the last of sixty", Told.tell(x, WISH, Suits.repeated("A", 59, "or ") + "or B"), 0);
        Due.is("holds", x.wished(0, 2), 1);
        Due.is("does not hold", x.wished(0, 4), 0);
        Due.is("the last of sixty", Told.tell(x, WISH, Suits.repeated("A", 59, "and ") + "and B"), 1);
        Due.is("holds", x.wished(1, 3), 1);
        Due.is("does not hold", x.wished(1, 1), 0);
        Due.is("one too many", Told.tell(x, WISH, sixty + "or B"), -2 - (1 + 8 * behind + FACTS));
        Due.is("the next text counts anew", Told.tell(x, WISH, sixty), 2);
    }

    private static void factsOfClauses() {
        Due.says("at most 60 FACTS that are a RIGHT or begin with of, together.");
        String twenty = Suits.repeated("A", 20, "or ");
        String need = "need " + twenty + ";need " + twenty + ";turn 1 if " + twenty;
        Told.good(MOVE, need);
        Told.faulty(MOVE, need + "or B", need.length() + 3, FACTS);
        Told.faulty(MOVE, need + ";need B", need.length() + 6, FACTS);
        Told.faulty(MOVE, need + ";turn 2 if of B=1", need.length() + 11, FACTS);
        // Rights of other clauses are no facts, and those of a counted fact are one together.
        Told.good(MOVE, need + ";give ABCDEFGH;end ABCDEFGH;turn 2;lend 3");
        Told.good(GIFT, "have ABCDEFGHIJKLMNOPQRSTUVWX;stop " + twenty + ";stop " + twenty + ";stop " + twenty);
        Told.faulty(GIFT, "stop " + twenty + ";stop " + twenty + ";stop " + twenty + ";stop A",
                4 * 6 - 1 + 3 * twenty.length(), FACTS);
        Told.good(WISH, Suits.repeated("A", 59, "or ") + "or of ABCDEFGHIJKLMNOPQRSTUVWXABCDEFGH = 1");
        // Brackets and nots are none.
        Told.good(WISH, Suits.repeated("[A]", 60, "or "));
        Told.faulty(WISH, Suits.repeated("[A]", 61, "or "), 60 * 6 + 1, FACTS);
        Told.good(WISH, Suits.repeated("not[A]", 20, "or ") + "or " + Suits.repeated("A", 40, "or "));
        // The last of sixty facts of a move, and the first one, each in a clause of its own.
        FeignedSuit x = new FeignedSuit();
        Due.is("move", Told.tell(x, MOVE, "need A;need " + Suits.repeated("B", 58, "or ") + ";turn 4 if C;give D"), 0);
        Told.tell(x, GIFT, "have A");
        Due.is("all needs", x.may(0, 0, 0, 3), 1);
        Due.is("the first need", x.may(0, 0, 0, 2), 0);
        Due.is("the second need", x.may(0, 0, 0, 1), 0);
        Due.is("the turn", x.turned(0, 4), 16);
        Due.is("no turn", x.turned(0, 3), 0);
    }

    private static void firstAlongTheText() {
        Due.says("FAULTS, the first along the text, 1 + 8 * its place");
        Told.faulty(MOVE, "days 1000;have A", 5, NUMBER);
        Told.faulty(MOVE, "have A;days 1000", 0, WRONG);
        Told.faulty(WISH, "of A=25 or Y", 5, NUMBER);
        Told.faulty(WISH, "Y or of A=25", 0, WRONG);
        Told.faulty(WISH, "[[[[[[[[[[[Y", 10, DEEP);
        Told.faulty(WISH, "[[[[[[[[[[Y[", 10, WRONG);
        Told.faulty(MOVE, "fee 1;fee 99999", 6, CLAUSES);
        Told.faulty(MOVE, "fee 99999;fee 1", 4, NUMBER);
        Told.faulty(MOVE, Suits.repeated("give A", 12, ";") + ";need Y", 84, CLAUSES);
        Told.faulty(MOVE, Suits.repeated("give A", 11, ";") + ";need Y;give A", 82, WRONG);
        Told.faulty(WISH, Suits.repeated("A", 61, "or ") + "or Y", 240, FACTS);
        Told.faulty(WISH, "Y or " + Suits.repeated("A", 61, "or "), 0, WRONG);
        // Of a bracket that is never closed the fault is what stands in place of its end.
        Told.faulty(MOVE, "need [A;give B", 7, WRONG);
        Told.faulty(WISH, "[[A]", 4, WRONG);
        Told.faulty(WISH, "[A]]", 3, WRONG);
        Told.faulty(WISH, "[A B]", 3, WRONG);
        Due.says("0 a byte or WORD that can't stand there, or the end (behind the last byte)");
        for (String begun : new String[] {"not", "not ", "A and", "A or ", "[", "[A", "[A ", "of", "of A", "of A ",
            "of A<", "of A<=", "of A >= ", "[A] or not [ "}) {
            Told.faulty(WISH, begun, begun.length(), WRONG);
            Told.faulty(STOP, begun + "  ", begun.length() + 2, WRONG);
            Told.faulty(MOVE, "need " + begun, begun.length() + 5, WRONG);
            Told.faulty(MOVE, "turn 3 if " + begun, begun.length() + 10, WRONG);
            Told.faulty(GIFT, "stop " + begun, begun.length() + 5, WRONG);
        }
        for (String begun : new String[] {"", " ", "need", "give", "end ", "days", "fee ", "lend", "turn", "turn 1 if",
            "give A;", "give A; "}) {
            Told.faulty(MOVE, begun, begun.length(), WRONG);
        }
        for (String begun : new String[] {"", " ", "have", "stop", "have A;", "have A; "}) {
            Told.faulty(GIFT, begun, begun.length(), WRONG);
        }
    }

    private static void leastOfOnePlace() {
        Due.says("Of one place the least.");
        String twelve = Suits.repeated("give A", 12, ";") + ";";
        // A thirteenth clause that could not stand there anyway.
        Told.faulty(MOVE, twelve, 84, WRONG);
        Told.faulty(MOVE, twelve + "  ", 86, WRONG);
        Told.faulty(MOVE, twelve + ";", 84, WRONG);
        Told.faulty(MOVE, twelve + "A", 84, WRONG);
        Told.faulty(MOVE, twelve + "stop A", 84, WRONG);
        Told.faulty(MOVE, twelve + "gives A", 84, WRONG);
        Told.faulty(MOVE, twelve + "123456", 84, WRONG);
        Told.faulty(GIFT, Suits.repeated("stop A", 12, ";") + ";give A", 84, WRONG);
        // A number of too many digits where no number can stand.
        Told.faulty(WISH, "123456", 0, WRONG);
        Told.faulty(WISH, "A 123456", 2, WRONG);
        Told.faulty(MOVE, "give 123456", 5, WRONG);
        Told.faulty(MOVE, "give A 123456", 7, WRONG);
        Told.faulty(MOVE, "days 1 123456", 7, WRONG);
        Told.faulty(MOVE, "turn 1 if 123456", 10, WRONG);
        Told.faulty(WISH, "of 123456", 3, WRONG);
        Told.faulty(WISH, "of A 123456", 5, WRONG);
        // A bracket, a not or a fact too much where none can stand.
        String ten = Suits.repeated("[", 10, "");
        Told.faulty(WISH, ten + "A[", 11, WRONG);
        Told.faulty(WISH, ten + "A not B", 12, WRONG);
        Told.faulty(WISH, Suits.repeated("A", 60, "or ") + " B", 60 * 4 - 2, WRONG);
        Told.faulty(WISH, Suits.repeated("A", 60, "or ") + " of B=1", 60 * 4 - 2, WRONG);
        // The second days that is a thirteenth clause too is one fault.
        Told.faulty(MOVE, "days 1;" + Suits.repeated("give A", 11, ";") + ";days 1", 84, CLAUSES);
    }

    /** Each of 256 bytes in places where few can stand. */
    private static void anyByte() {
        Due.says("0 a byte or WORD that can't stand there, or the end (behind the last byte)");
        for (int b = 0; b < 256; b++) {
            char c = (char) b;
            boolean right = c >= 'A' && c <= 'X';
            boolean digit = c >= '0' && c <= '9';
            boolean small = c >= 'a' && c <= 'z';
            byteIn(WISH, "", c, "", right ? -1 : c == ' ' || c == '[' ? 1 : 0);
            byteIn(STOP, "", c, "", right ? -1 : c == ' ' || c == '[' ? 1 : 0);
            byteIn(MOVE, "", c, "", c == ' ' ? 1 : 0);
            byteIn(GIFT, "", c, "", c == ' ' ? 1 : 0);
            byteIn(WISH, "A", c, "B", c == ' ' ? 2 : 1);
            byteIn(WISH, "[A", c, "", c == ' ' || c == ']' ? c == ']' ? -1 : 3 : 2);
            byteIn(WISH, "not", c, "A", c == ' ' ? -1 : c == '[' ? 5 : right ? 4 : small ? 0 : 3);
            byteIn(WISH, "of A", c, "1", c == '<' || c == '=' || c == '>' ? -1 : right || c == ' ' ? 5 : 4);
            byteIn(WISH, "of A<", c, "", digit ? -1 : c == '=' || c == ' ' ? 6 : 5);
            byteIn(WISH, "of A>", c, "1", c == '0' || c == '1' || c == '2' || c == '=' || c == ' ' ? -1 : 5);
            byteIn(WISH, "of A=", c, "1", c == '0' || c == '1' || c == '2' || c == ' ' ? -1 : 5);
            byteIn(MOVE, "give A", c, "B", right || c == ' ' ? -1 : c == ';' ? 7 : 6);
            byteIn(MOVE, "days 1", c, "2", digit ? -1 : c == ' ' || c == ';' ? 7 : 6);
            byteIn(MOVE, "turn 1", c, "", c == ' ' || c >= '0' && c <= '5' ? -1 : c == ';' ? 7 : digit ? 5 : 6);
            byteIn(GIFT, "have A", c, "", right || c == ' ' ? -1 : c == ';' ? 7 : 6);
            byteIn(GIFT, "stop A", c, "", c == ' ' ? -1 : c == ';' ? 7 : 6);
        }
    }

    /** The fault of the text with this byte in it is at this place, -1: it has none. */
    private static void byteIn(int sort, String ahead, char c, String behind, int place) {
        String text = ahead + c + behind;
        // Only a number that is too great is no fault of a byte.
        boolean number = c >= '0' && c <= '9' && (ahead.endsWith("of A>") || ahead.endsWith("of A=")
                || ahead.endsWith("turn 1"));
        int want = place < 0 ? 0 : -2 - (1 + 8 * place + (number ? NUMBER : WRONG));
        Due.is("sort " + sort + ", '" + ahead + "', byte " + (int) c + ", '" + behind + "'",
                Told.tell(new FeignedSuit(), sort, text), want);
    }

    private static void howFactsHold() {
        Due.says("A FACT that is a RIGHT holds of a STATE that has it; one of RIGHTS, by how many of these (each once) "
                + "it has.");
        Told.holdsOf("A", 0, 0);
        Told.holdsOf("A", 1, 1);
        Told.holdsOf("X", Suits.X, 1);
        Told.holdsOf("X", Suits.X - 1, 0);
        Told.holdsOf("of AAAA = 1", 1, 1);
        Told.holdsOf("of AAAA = 4", 1, 0);
        Told.holdsOf("of AABB >= 3", 3, 0);
        Told.holdsOf("of AB = 0", 4, 1);
        Told.holdsOf("of AB <= 1", 12, 1);
        Told.holdsOf("of A < 0", 0, 0);
        Told.holdsOf("of A >= 0", 1, 1);
        Told.holdsOf("of A < 24", 1, 1);
        Told.holdsOf("of A > 24", Suits.ALL_RIGHTS, 0);
        Told.holdsOf("of A = 2", Suits.ALL_RIGHTS, 0);
    }

    private static void howPartsBind() {
        Due.says("TEST: PART { or PART }. PART: FACT { and FACT }. FACT: not FACT | [ TEST ]");
        for (int state = 0; state < 16; state++) {
            boolean a = (state & 1) != 0;
            boolean b = (state & 2) != 0;
            boolean c = (state & 4) != 0;
            boolean d = (state & 8) != 0;
            Told.holdsOf("A or B and C or D", state, a || b && c || d ? 1 : 0);
            Told.holdsOf("A and B or C and D", state, a && b || c && d ? 1 : 0);
            Told.holdsOf("[A or B] and [C or D]", state, (a || b) && (c || d) ? 1 : 0);
            Told.holdsOf("not A and B or not C", state, !a && b || !c ? 1 : 0);
            Told.holdsOf("not [A and B] and not [C or D]", state, !(a && b) && !(c || d) ? 1 : 0);
            Told.holdsOf("not not A or not not not B and C", state, a || !b && c ? 1 : 0);
            Told.holdsOf("not [not [A or B] or not C] and not D", state, (a || b) && c && !d ? 1 : 0);
            Told.holdsOf("[[A and not B] or [B and not A]] and not [C and D]", state, a != b && !(c && d) ? 1 : 0);
            Told.holdsOf("A and [B or C and [D or not A]]", state, a && (b || c && (d || !a)) ? 1 : 0);
        }
    }
}
