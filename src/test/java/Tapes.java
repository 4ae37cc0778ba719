/** Puts a row of signs on THE TAPE of an object. */
final class Tapes {
    private Tapes() {
    }

    /** THE TAPE becomes these signs, whatever it was: how many bytes it has. */
    static int put(OneStroke x, String signs) {
        x.trim(0);
        for (int k = 0; k < signs.length(); k += 12) {
            x.feed(word(signs, k), word(signs, k + 4), word(signs, k + 8));
        }
        return x.trim(signs.length());
    }

    /** What text() answers to these signs. */
    static int law(OneStroke x, String signs) {
        put(x, signs);
        return x.text();
    }

    /** Four signs as a number, the first one highest; a sign that no TEXT has, where there are no more. */
    static int word(String signs, int from) {
        int word = 0;
        for (int k = from; k < from + 4; k++) {
            word = word << 8 | (k < signs.length() ? signs.charAt(k) & 255 : '#');
        }
        return word;
    }
}
