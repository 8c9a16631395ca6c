/** Tells texts to the class by its tape. */
final class Told {
    private Told() {
    }

    static int tell(FeignedSuit suit, int sort, String text) {
        put(suit, text);
        return suit.text(sort);
    }

    /** The tape is this text then. */
    static void put(FeignedSuit suit, String text) {
        suit.end(0);
        for (int from = 0; from < text.length(); from += 20) {
            suit.feed(number(text, from), number(text, from + 4), number(text, from + 8),
                    number(text, from + 12), number(text, from + 16));
        }
        suit.end(text.length());
    }

    /** Four signs as one number, the highest first; zeros behind the text. */
    static int number(String text, int from) {
        int number = 0;
        for (int i = from; i < from + 4; i++) {
            number = number << 8 | (i < text.length() ? text.charAt(i) & 255 : 0);
        }
        return number;
    }

    /** The text has just this fault, and tells nothing. */
    static void faulty(int sort, String text, int place, int kind) {
        FeignedSuit x = new FeignedSuit();
        Due.is("fault of sort " + sort + " '" + text + "'", tell(x, sort, text), -2 - (1 + 8 * place + kind));
        Due.is("nothing told by '" + text + "'", x.count(sort), 0);
        Due.is("the tape behind '" + text + "'", x.count(5), 0);
    }

    static void good(int sort, String text) {
        FeignedSuit x = new FeignedSuit();
        Due.is("text of sort " + sort + " '" + text + "'", tell(x, sort, text), 0);
        Due.is("told by '" + text + "'", x.count(sort), 1);
        Due.is("the tape behind '" + text + "'", x.count(5), 0);
    }

    /** Whether the test holds of the state. */
    static void holdsOf(String test, int state, int want) {
        FeignedSuit x = new FeignedSuit();
        tell(x, Suits.WISH, test);
        Due.is("'" + test + "' of " + state, x.wished(0, state), want);
    }
}
