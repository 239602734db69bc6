/** The digest of the document, and paragraphs that have a certain one. */
final class Digests {
    private static final int MODULUS = 1000003;

    private Digests() {
    }

    /** The digest of a section, given the lines behind its heading with a ";" before each of them. */
    static int of(String lines) {
        long digest = 7;
        for (char sign : lines.toCharArray()) {
            digest = (31 * digest + sign) % MODULUS;
        }
        return (int) digest;
    }

    /** A line with a ";" before it that has this digest: a name of six or seven letters. */
    static String with(int digest) {
        for (int tried = 0; tried < 26 * 26 * 26 * 26; tried++) {
            StringBuilder text = new StringBuilder(";");
            for (int rest = tried, letter = 0; letter < 4; letter++, rest /= 26) {
                text.append((char) ('a' + rest % 26));
            }
            String end = endFor(of(text.toString()), digest);
            if (end != null) {
                return text + end;
            }
        }
        throw new IllegalStateException("no line with the digest " + digest);
    }

    /** Two letters that lead from one digest to another; null if none do. */
    private static String endFor(int from, int to) {
        for (char first = 'a'; first <= 'z'; first++) {
            int between = (31 * from + first) % MODULUS;
            int last = Math.floorMod(to - 31 * between, MODULUS);
            if (last >= 'a' && last <= 'z') {
                return "" + first + (char) last;
            }
        }
        return null;
    }
}
