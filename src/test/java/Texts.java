/** Writes texts as the numbers that put() takes. */
final class Texts {
    private Texts() {
    }

    static long number(String text) {
        long number = 0;
        for (int i = 0; i < text.length(); i++) {
            number = number << 8 | text.charAt(i);
        }
        return number;
    }

    /** Appends a text to the pad, eight characters a call. */
    static void put(LoopListeners x, String text) {
        for (int at = 0; at < text.length(); at += 8) {
            x.put(number(text.substring(at, Math.min(at + 8, text.length()))));
        }
    }
}
