/** Texts as the numbers that put() takes. */
final class Texts {
    private Texts() {
    }

    /** At most 8 characters as a number. */
    static long packed(String characters) {
        long number = 0;
        for (char sign : characters.toCharArray()) {
            number = number << 8 | sign;
        }
        return number;
    }

    /** Puts a text of any length on the pad; the last answer. */
    static int putAll(RouteProofs x, String text) {
        int answer = 0;
        for (int start = 0; start < text.length(); start += 8) {
            answer = x.put(packed(text.substring(start, Math.min(start + 8, text.length()))));
        }
        return answer;
    }

    /** A new object with the grid of a text. */
    static RouteProofs grid(String text) {
        RouteProofs x = new RouteProofs();
        putAll(x, text);
        x.load();
        return x;
    }
}
