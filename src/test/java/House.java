import java.util.function.Supplier;

/** Shows that a call leaves no trace: of two suits made alike one has the call, and all later answers are the same. */
final class House {
    /** One call of the face; a boolean counts 1 or 0. */
    interface Call {
        long on(FeignedSuit x);
    }

    private House() {
    }

    /** A suit with something of all that can be told, a search under way, two marks and a text on the tape. */
    static FeignedSuit furnished() {
        FeignedSuit x = Suits.suit(new String[] {"need A;give B;fee 3;days 2;lend 1;turn 2 if not B",
            "need B;end A;give C;fee 5;lend 4;turn 3", "give D;days 7"}, "have A;stop E", "C");
        Due.is("a gift", Told.tell(x, Suits.GIFT, "have BX"), 1);
        Due.is("a wish", Told.tell(x, Suits.WISH, "B and not A"), 1);
        Due.is("a stop", Told.tell(x, Suits.STOP, "D"), 0);
        Due.is("a stop", Told.tell(x, Suits.STOP, "C and D"), 1);
        Due.is("a roll", x.roll(0, 5), 0);
        Due.is("an entry", x.enter(0, 0), 1);
        Due.is("a mark", x.mark(1), 3);
        Due.is("years", x.open(2, 5, 9), true);
        Due.is("stops in force", x.force(2), 0);
        Due.is("who holds", x.holds(0, 7), -1);
        Due.is("who holds", x.holds(1, 8), -1);
        Due.is("a roll", x.roll(1, 9), 1);
        Due.is("an entry", x.enter(1, 2), 1);
        Due.is("an entry", x.enter(0, 1), 2);
        Due.is("a search", x.search(0, 0, 7, -1), true);
        Due.is("it goes", x.go(1), 1);
        Due.is("a mark", x.mark(2), 3);
        Told.put(x, "A and B");
        return x;
    }

    /** The call answers so, and nothing happens. */
    static void leavesNoTrace(String name, Call call, long want) {
        leavesNoTrace(name, House::furnished, call, want);
    }

    static void leavesNoTrace(String name, Supplier<FeignedSuit> made, Call call, long want) {
        FeignedSuit x = made.get();
        FeignedSuit twin = made.get();
        Due.is(name, call.on(x), want);
        Due.is("answers behind " + name, picture(x), picture(twin));
    }

    /** Later answers; the suit is another one then. Few enough that a full suit stays within its 512 calls. */
    private static String picture(FeignedSuit x) {
        StringBuilder b = new StringBuilder();
        lookAtTexts(x, b);
        lookAtRolls(x, b);
        lookAtSearch(x, b);
        int force = x.force(0);
        b.append(" force ").append(force).append(x.force(force));
        for (int right : new int[] {0, 1, 22, 23}) {
            int person = x.holds(right, right == 23 ? 5 : -1);
            b.append(' ').append(person).append(' ').append(x.holds(right, person));
        }
        goOn(x, b);
        lookAtTape(x, b);
        for (int k = 0; k < 4; k++) {
            b.append("\nback ").append(x.back(k));
            b.append(" force ").append(x.force(0)).append(" holds ").append(x.holds(0, 1)).append(x.holds(1, 1));
            lookAtSearch(x, b);
            goOn(x, b);
            for (int roll = 0; roll < 2; roll++) {
                b.append(' ').append(x.judged(roll, 0)).append(' ').append(x.judged(roll, 1));
            }
            b.append(" may ").append(x.may(0, 0, 2, 1));
            for (int what = 0; what <= 5; what++) {
                b.append(' ').append(x.count(what));
            }
        }
        return b.toString();
    }

    private static void lookAtTexts(FeignedSuit x, StringBuilder b) {
        b.append("counts");
        for (int what = 0; what <= 5; what++) {
            b.append(' ').append(x.count(what));
        }
        int[] years = {0, 4, 5, 9, 10, 2999};
        for (int move = 0; move < 4; move++) {
            b.append("\nmove ").append(x.after(move, 7)).append(' ').append(x.turned(move, 1));
            b.append(' ').append(x.turned(move, 2)).append(" may");
            for (int year : years) {
                b.append(' ').append(x.may(0, year, move, move == 1 ? 3 : 1));
            }
        }
        for (int k = 0; k < 3; k++) {
            b.append("\ngift ").append(x.first(k));
            b.append(" wish ").append(x.wished(k, 1)).append(x.wished(k, 2)).append(x.wished(k, 4));
        }
    }

    private static void lookAtRolls(FeignedSuit x, StringBuilder b) {
        for (int roll = 0; roll < 3; roll++) {
            b.append("\nroll ").append(x.judged(roll, 0)).append(' ').append(x.judged(roll, 1));
            b.append(' ').append(x.feigned(roll)).append(' ').append(x.claims(roll, 0));
            b.append(' ').append(x.claims(roll, 1)).append(' ').append(x.costs(roll, 0));
            b.append(' ').append(x.costs(roll, 1));
            for (int k = 0; k < 3; k++) {
                b.append(' ').append(x.risk(roll, k));
            }
        }
    }

    private static void lookAtSearch(FeignedSuit x, StringBuilder b) {
        b.append("\nsearch");
        for (int what = 0; what <= 3; what++) {
            b.append(' ').append(x.sought(what));
        }
        for (int k = 0; k < 5; k++) {
            b.append(' ').append(x.met(k)).append(' ').append(x.row(k));
        }
    }

    private static void goOn(FeignedSuit x, StringBuilder b) {
        b.append(" goes ").append(x.go(1)).append(' ').append(x.sought(1)).append(' ').append(x.go(4000));
        lookAtSearch(x, b);
    }

    private static void lookAtTape(FeignedSuit x, StringBuilder b) {
        int sort = x.count(Suits.WISH) < 16 ? Suits.WISH : Suits.STOP;
        int told = x.text(sort);
        b.append("\ntape ").append(told).append(' ').append(x.count(5));
        for (int state = 0; state < 4; state++) {
            b.append(' ').append(x.wished(told, state));
        }
    }
}
