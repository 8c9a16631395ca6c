/** Makes suits for tests. */
final class Suits {
    static final int MOVE = 0;
    static final int GIFT = 1;
    static final int WISH = 2;
    static final int STOP = 3;
    static final int LOW = Integer.MIN_VALUE;
    static final int HIGH = Integer.MAX_VALUE;
    static final int X = 1 << 23;
    static final int ALL_RIGHTS = 16777215;
    /** Ends of what numbers can be, which nothing of the document has room for. */
    static final int[] FAR = {LOW, LOW + 1, -1000000, HIGH - 1, HIGH};

    private Suits() {
    }

    /** A new suit with these moves, gift 0 and wish 0. */
    static FeignedSuit suit(String[] moves, String gift, String wish) {
        FeignedSuit x = new FeignedSuit();
        for (int i = 0; i < moves.length; i++) {
            Due.is("move " + moves[i], Told.tell(x, MOVE, moves[i]), i);
        }
        Due.is("gift " + gift, Told.tell(x, GIFT, gift), 0);
        Due.is("wish " + wish, Told.tell(x, WISH, wish), 0);
        return x;
    }

    /** So many rights that can each be given, by four people who lend: two to that many states, with right X. */
    static FeignedSuit wide(int rights, String wish) {
        String[] moves = new String[rights];
        for (int i = 0; i < rights; i++) {
            moves[i] = "give " + letter(i) + ";lend " + i % 4;
        }
        return suit(moves, "have X", wish);
    }

    /**
     * Exactly so many states can be met, one from the other: right X and the numbers from 0 on, as bits. Each move
     * takes a number to the next one, and has these clauses beside.
     */
    static FeignedSuit chain(int states, String wish, String clauses) {
        int rights = rightsFor(states);
        String[] moves = new String[rights];
        for (int i = 0; i < rights; i++) {
            moves[i] = step(i) + clauses;
        }
        return suit(moves, "have X;stop " + number(states, rights), wish);
    }

    /** The test that holds where just these of the first rights are there. */
    static String number(int number, int rights) {
        StringBuilder b = new StringBuilder();
        for (int i = 0; i < rights; i++) {
            b.append(i == 0 ? "" : " and ").append((number >> i & 1) == 0 ? "not " : "").append(letter(i));
        }
        return b.toString();
    }

    /** The test that holds of the k-th state of a chain of so many. */
    static String numberInChain(int k, int states) {
        return number(k, rightsFor(states));
    }

    static char letter(int right) {
        return (char) ('A' + right);
    }

    static String repeated(String text, int times, String between) {
        StringBuilder b = new StringBuilder();
        for (int i = 0; i < times; i++) {
            b.append(i == 0 ? "" : between).append(text);
        }
        return b.toString();
    }

    private static int rightsFor(int states) {
        int rights = 1;
        while (1 << rights <= states) {
            rights++;
        }
        return rights;
    }

    /** The move that sets this bit of a number and takes all lower ones, which must be there. */
    private static String step(int bit) {
        StringBuilder b = new StringBuilder("need not ").append(letter(bit));
        StringBuilder lower = new StringBuilder();
        for (int i = 0; i < bit; i++) {
            b.append(" and ").append(letter(i));
            lower.append(letter(i));
        }
        b.append(";give ").append(letter(bit));
        return bit == 0 ? b.toString() : b.append(";end ").append(lower).toString();
    }
}
