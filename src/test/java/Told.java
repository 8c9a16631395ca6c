/** Tells texts to the class by its tape. */
final class Told {
    private Told() {
    }

    static int tell(FeignedSuit suit, int sort, String text) {
        suit.end(0);
        for (int from = 0; from < text.length(); from += 20) {
            suit.feed(number(text, from), number(text, from + 4), number(text, from + 8),
                    number(text, from + 12), number(text, from + 16));
        }
        suit.end(text.length());
        return suit.text(sort);
    }

    /** Four signs as one number, the highest first; zeros behind the text. */
    static int number(String text, int from) {
        int number = 0;
        for (int i = from; i < from + 4; i++) {
            number = number << 8 | (i < text.length() ? text.charAt(i) & 255 : 0);
        }
        return number;
    }
}
