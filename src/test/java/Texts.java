/** Texts as put() takes them. */
final class Texts {
    private Texts() {
    }

    /** The number of a text of at most eight characters: the last one in the lowest bits. */
    static long number(String text) {
        long number = 0;
        for (int i = 0; i < text.length(); i++) {
            number = number << 8 | text.charAt(i);
        }
        return number;
    }

    /** Puts a text of any length on the pad, and returns what the last call answered. */
    static int put(BoardEnds x, String text) {
        int answer = 0;
        for (int from = 0; from < text.length(); from += 8) {
            answer = x.put(number(text.substring(from, Math.min(text.length(), from + 8))));
        }
        return answer;
    }
}
