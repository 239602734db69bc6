/** Promises 5 to 12: load, remove, character, about, heading, anchor, section, cycles. */
public final class PagesTest {
    private static final Check CHECK = new Check();
    private static final int NO_SUCH = -1, BAD_VALUE = -2, BAD_TEXT = -3, NOT_POSSIBLE = -5, NONE = -6;
    private static final int[] OUTSIDE = {-1, 12, 13, 31, 32, Integer.MAX_VALUE, Integer.MIN_VALUE};

    public static void main(String[] args) {
        load();
        remove();
        character();
        about();
        aboutLimits();
        expansionOfHundredLines();
        expansionOfTwoHundredIncludes();
        heading();
        levels();
        anchor();
        section();
        digests();
        cycles();
        CHECK.end("PagesTest");
    }

    private static void load() {
        LinkAuditor x = new LinkAuditor();
        CHECK.is("5 load of the empty pad", x.load(0), BAD_TEXT);
        CHECK.is("5 load", Check.load(x, 'A', "a,b;=c;{D}"), 3);
        CHECK.is("5 the pad is empty", x.count(1), 0);
        CHECK.is("5 the set of sources", x.count(0), 1);
        Check.type(x, "a;");
        for (int page : OUTSIDE) {
            CHECK.is("5 load(" + page + ") with a fault", x.load(page), NO_SUCH);
        }
        CHECK.is("5 load with a fault", x.load(0), BAD_TEXT);
        CHECK.is("5 the pad stays", x.count(1), 2);
        CHECK.same("5 the source stays", Check.source(x, 'A'), "a,b;=c;{D}");
        CHECK.is("5 no change more", x.count(6), 1);
        x.put('b');
        CHECK.is("5 load behind the fault", x.load(0), 2);
        CHECK.same("5 replaced", Check.source(x, 'A'), "a;b");
        CHECK.is("5 a redirect is no page", Check.load(x, 'B', "A>B"), BAD_TEXT);
        CHECK.is("5 80 lines", Check.load(x, 'L', "a;".repeat(79) + "a"), 80);
        CHECK.is("5 the set of sources", x.count(0), 1 | 1 << 11);
        x.wipe();
        Check.type(x, "z");
        CHECK.is("5 load(12)", x.load(12), NO_SUCH);
        CHECK.is("5 the pad stays", x.count(1), 1);
    }

    private static void remove() {
        LinkAuditor x = new LinkAuditor();
        CHECK.is("6 remove without a source", x.remove(0), NOT_POSSIBLE);
        Check.load(x, 'A', "a");
        Check.load(x, 'C', "c");
        Check.load(x, 'L', "l");
        for (int page : OUTSIDE) {
            CHECK.is("6 remove(" + page + ")", x.remove(page), NO_SUCH);
        }
        x.put('q');
        CHECK.is("6 remove", x.remove(2), 1 | 1 << 11);
        CHECK.is("6 remove again", x.remove(2), NOT_POSSIBLE);
        CHECK.is("6 about", x.about(2, 0), NOT_POSSIBLE);
        CHECK.is("6 remove", x.remove(11), 1);
        CHECK.is("6 remove the last one", x.remove(0), 0);
        CHECK.is("6 the pad stays", x.count(1), 1);
        CHECK.is("6 changes", x.count(6), 6);
    }

    private static void character() {
        LinkAuditor x = new LinkAuditor();
        Check.load(x, 'B', "ab,[C#d-1]");
        CHECK.is("7 length", x.character(1, -1), 10);
        CHECK.is("7 first", x.character(1, 0), 'a');
        CHECK.is("7 last", x.character(1, 9), ']');
        CHECK.is("7 behind", x.character(1, 10), NONE);
        for (int index : new int[] {-2, -3, 159, 160, 161, Integer.MAX_VALUE, Integer.MIN_VALUE}) {
            CHECK.is("7 character(1, " + index + ")", x.character(1, index), NONE);
            CHECK.is("7 without a source", x.character(2, index), NOT_POSSIBLE);
        }
        for (int page : OUTSIDE) {
            CHECK.is("7 character(" + page + ", -1)", x.character(page, -1), NO_SUCH);
        }
        CHECK.is("7 without a source", x.character(2, -1), NOT_POSSIBLE);
        Check.load(x, 'B', "z");
        CHECK.is("7 behind a shorter source", x.character(1, 1), NONE);
        Check.load(x, 'C', "a;".repeat(79) + "bc");
        CHECK.is("7 the 160th", x.character(2, 159), 'c');
        CHECK.is("7 the 161st", x.character(2, 160), NONE);
    }

    private static void abouts(LinkAuditor x, char page, int... due) {
        for (int what = 0; what < 8; what++) {
            CHECK.is("8 about(" + page + ", " + what + ")", x.about(page - 'A', what), due[what]);
        }
    }

    private static void about() {
        LinkAuditor x = new LinkAuditor();
        Check.load(x, 'A', "p,[B];=a;{B+1};{B};{D};{A};==b;[#a],[C#x-2],q");
        abouts(x, 'A', 8, 4, 2, 2, 3, 4, 1 | 2 | 8, 1);
        Check.load(x, 'B', "=b;[A];{C};{A}");
        abouts(x, 'A', 8, 8, 4, 2, 3, 4, 1 | 2 | 8, 3);
        abouts(x, 'B', 4, 6, 3, 1, 1, 2, 1 | 4, 3);
        Check.load(x, 'C', "{B};{D}");
        abouts(x, 'C', 2, 6, 3, 0, 0, 2, 2 | 8, 3);
        for (int page : OUTSIDE) {
            CHECK.is("8 about(" + page + ", 99)", x.about(page, 99), NO_SUCH);
        }
        for (int what : new int[] {-1, 8, Integer.MAX_VALUE, Integer.MIN_VALUE}) {
            CHECK.is("8 about(0, " + what + ")", x.about(0, what), BAD_VALUE);
            CHECK.is("8 about(11, " + what + ")", x.about(11, what), BAD_VALUE);
        }
        CHECK.is("8 without a source", x.about(11, 0), NOT_POSSIBLE);
        Check.load(x, 'E', "{F};{E}");
        abouts(x, 'E', 2, 0, 0, 0, 0, 2, 16 | 32, 0);
    }

    private static void aboutLimits() {
        LinkAuditor x = new LinkAuditor();
        Check.load(x, 'A', "=a;".repeat(52) + "=a");
        abouts(x, 'A', 53, 53, 53, 53, 0, 0, 0, 1);
        Check.load(x, 'B', "[A],".repeat(39) + "[A]");
        abouts(x, 'B', 1, 1, 0, 0, 40, 0, 0, 2);
        Check.load(x, 'C', "{B};".repeat(39) + "{B}");
        abouts(x, 'C', 40, 40, 0, 0, 0, 40, 2, 2);
    }

    private static void expansionOfHundredLines() {
        LinkAuditor x = new LinkAuditor();
        Check.load(x, 'B', "a;".repeat(79) + "a");
        Check.load(x, 'A', "{B};{B};=z;y");
        abouts(x, 'A', 4, 100, 0, 1, 0, 2, 2, 2);
        CHECK.is("8 the heading behind the 100th line", x.section(0, 0, 1), NONE);
        CHECK.is("8 no heading", x.heading(0, 0, 0), NO_SUCH);
        Check.load(x, 'B', "a;".repeat(49) + "a");
        abouts(x, 'A', 4, 100, 0, 1, 0, 2, 2, 2);
        Check.load(x, 'B', "a;".repeat(48) + "a");
        abouts(x, 'A', 4, 100, 1, 1, 0, 2, 2, 3);
        CHECK.is("8 the 99th line", x.section(0, 0, 1), 0);
        Check.load(x, 'A', "q;{B};{B};=z;y");
        CHECK.is("8 the 100th line", x.section(0, 0, 1), 0);
        abouts(x, 'A', 5, 100, 1, 1, 0, 2, 2, 3);
    }

    /** B replaces 41 includes, E 1 and as many as it has; what is left out before does not count. */
    private static void expansionOfTwoHundredIncludes() {
        LinkAuditor x = new LinkAuditor();
        Check.load(x, 'D', "=d");
        Check.load(x, 'C', "{A}");
        Check.load(x, 'B', "{C};".repeat(39) + "{C}");
        Check.load(x, 'E', "{C};".repeat(33) + "{C}");
        Check.load(x, 'A', "{L};{A};{B};{B};{B};{B};{L};{E};{D};{D};=x");
        CHECK.is("8 the 200th include", x.about(0, 2), 2);
        CHECK.is("8 the heading behind", x.section(0, 0, 1), 1);
        CHECK.is("8 its origin", x.heading(0, 0, 1), 3);
        Check.load(x, 'E', "{C};".repeat(32) + "{C}");
        CHECK.is("8 199 includes before the last", x.about(0, 2), 3);
        Check.load(x, 'E', "{C};".repeat(34) + "{C}");
        CHECK.is("8 200 includes before", x.about(0, 2), 1);
        CHECK.is("8 the others", x.about(0, 7), 1);
        CHECK.is("8 the includes of the source", x.about(0, 5), 10);
    }

    private static void numbers(LinkAuditor x, char page, int heading, int... parts) {
        for (int part = 0; part < 10; part++) {
            int due = part < parts.length ? parts[part] : 0;
            String call = "9 heading(" + page + ", " + heading + ", " + (3 + part) + ")";
            CHECK.is(call, x.heading(page - 'A', heading, 3 + part), due);
        }
    }

    private static void heading() {
        LinkAuditor x = new LinkAuditor();
        CHECK.is("9 without a source", x.heading(0, 0, 0), NO_SUCH);
        Check.load(x, 'A', "=a;==b;p;==c;=d;==e;===f;==g;=h");
        numbers(x, 'A', 0, 1);
        numbers(x, 'A', 1, 1, 1);
        numbers(x, 'A', 2, 1, 2);
        numbers(x, 'A', 3, 2);
        numbers(x, 'A', 4, 2, 1);
        numbers(x, 'A', 5, 2, 1, 1);
        numbers(x, 'A', 6, 2, 2);
        numbers(x, 'A', 7, 3);
        Check.load(x, 'B', "===a;=b;===c;{A+1};==c");
        numbers(x, 'B', 0, 0, 0, 1);
        numbers(x, 'B', 1, 1);
        numbers(x, 'B', 2, 1, 0, 1);
        numbers(x, 'B', 3, 1, 1);
        numbers(x, 'B', 8, 1, 2, 1, 1);
        numbers(x, 'B', 11, 1, 4);
        CHECK.is("9 level", x.heading(1, 8, 0), 4);
        CHECK.is("9 origin", x.heading(1, 8, 1), 0);
        CHECK.is("9 own origin", x.heading(1, 11, 1), 1);
        CHECK.is("9 length of a", x.heading(1, 0, 2), 1);
        CHECK.is("9 length of c-2", x.heading(1, 11, 2), 3);
        for (int odd : new int[] {-1, 12, Integer.MAX_VALUE, Integer.MIN_VALUE}) {
            CHECK.is("9 heading(1, " + odd + ", 99)", x.heading(1, odd, 99), NO_SUCH);
        }
        for (int page : OUTSIDE) {
            CHECK.is("9 heading(" + page + ", 0, 0)", x.heading(page, 0, 0), NO_SUCH);
        }
        for (int what : new int[] {-1, 13, Integer.MAX_VALUE, Integer.MIN_VALUE}) {
            CHECK.is("9 heading(1, 0, " + what + ")", x.heading(1, 0, what), BAD_VALUE);
        }
    }

    private static void levels() {
        LinkAuditor x = new LinkAuditor();
        for (char page = 'A'; page < 'L'; page++) {
            Check.load(x, page, "{" + (char) (page + 1) + "+2}");
        }
        Check.load(x, 'L', "===x;===y");
        CHECK.is("9 the highest level", x.heading(0, 1, 0), 25);
        numbers(x, 'A', 1);
        CHECK.is("9 level 11", x.heading(7, 0, 0), 11);
        numbers(x, 'H', 1);
        Check.load(x, 'I', "{J+1}");
        CHECK.is("9 level 10", x.heading(7, 1, 0), 10);
        numbers(x, 'H', 1, 0, 0, 0, 0, 0, 0, 0, 0, 0, 2);
        Check.load(x, 'I', "{J}");
        CHECK.is("9 an include without a number", x.heading(7, 1, 0), 9);
        Check.load(x, 'I', "{J+0}");
        CHECK.is("9 an include with 0", x.heading(7, 1, 0), 9);
        Check.load(x, 'L', "{A+2};=z");
        CHECK.is("9 an include that is left out", x.about(11, 2), 1);
        CHECK.is("9 level in its own page", x.heading(11, 0, 0), 1);
    }

    private static void anchor() {
        LinkAuditor x = new LinkAuditor();
        Check.load(x, 'B', "=a;=abcdefgh;=a1");
        Check.load(x, 'A', "==a;{B};=a;{B+2};=b");
        String[] due = {"a", "a-1", "abcdefgh", "a1", "a-2", "a-3", "abcdefgh-1", "a1-1", "b"};
        for (int heading = 0; heading < due.length; heading++) {
            CHECK.same("10 anchor " + heading, Check.anchor(x, 'A', heading), due[heading]);
        }
        CHECK.is("10 character", x.anchor(0, 6, 8), '-');
        CHECK.is("10 digit", x.anchor(0, 6, 9), '1');
        for (int index : new int[] {10, 11, -1, -2, Integer.MAX_VALUE, Integer.MIN_VALUE}) {
            CHECK.is("10 anchor(0, 6, " + index + ")", x.anchor(0, 6, index), NONE);
            CHECK.is("10 anchor(0, 9, " + index + ")", x.anchor(0, 9, index), NO_SUCH);
            CHECK.is("10 anchor(0, -1, " + index + ")", x.anchor(0, -1, index), NO_SUCH);
            CHECK.is("10 anchor(2, 0, " + index + ")", x.anchor(2, 0, index), NO_SUCH);
        }
        for (int page : OUTSIDE) {
            CHECK.is("10 anchor(" + page + ", 0, 0)", x.anchor(page, 0, 0), NO_SUCH);
        }
        Check.load(x, 'C', "=az09zy18;=z;=a9");
        CHECK.same("10 letters and digits", Check.anchor(x, 'C', 0), "az09zy18");
        CHECK.same("10 a letter", Check.anchor(x, 'C', 1), "z");
        CHECK.same("10 a digit", Check.anchor(x, 'C', 2), "a9");
        Check.load(x, 'C', "=abcdefgh;".repeat(15) + "=abcdefgh");
        Check.load(x, 'D', "{C};{C};{C};{C};{C};{C};{C};{C}");
        CHECK.same("10 two digits", Check.anchor(x, 'D', 10), "abcdefgh-10");
        CHECK.same("10 the last one", Check.anchor(x, 'D', 99), "abcdefgh-99");
        CHECK.is("10 its length", x.heading(3, 99, 2), 11);
    }

    private static void section() {
        LinkAuditor x = new LinkAuditor();
        CHECK.is("11 without a source", x.section(0, 0, 0), NO_SUCH);
        Check.load(x, 'B', "=x;=y");
        Check.load(x, 'A', "p;=a;{B};q,r;==b;=c;{L}");
        int[] headings = {0, 3, 4};
        int[] lines = {2, 0, 1};
        for (int section = 0; section < 3; section++) {
            CHECK.is("11 heading of " + section, x.section(0, section, 1), headings[section]);
            CHECK.is("11 lines of " + section, x.section(0, section, 2), lines[section]);
        }
        CHECK.is("11 the empty one", x.section(0, 1, 0), 7);
        for (int odd : new int[] {-1, 3, Integer.MAX_VALUE, Integer.MIN_VALUE}) {
            CHECK.is("11 section(0, " + odd + ", 9)", x.section(0, odd, 9), NO_SUCH);
            CHECK.is("11 section(0, 0, " + odd + ")", x.section(0, 0, odd), BAD_VALUE);
        }
        for (int page : OUTSIDE) {
            CHECK.is("11 section(" + page + ", 0, 0)", x.section(page, 0, 0), NO_SUCH);
        }
        Check.load(x, 'B', "p;q");
        CHECK.is("11 found anew", x.section(0, 1, 1), 1);
        Check.load(x, 'A', "=a;=b;c");
        CHECK.is("11 lines found anew", x.section(0, 0, 2), 0);
        CHECK.is("11 lines found anew", x.section(0, 1, 2), 1);
    }

    private static void digests() {
        LinkAuditor x = new LinkAuditor();
        Check.load(x, 'A', "z;=h;a;==i;a;b;===j;=k;a");
        CHECK.is("11 digest of ;a", x.section(0, 0, 0), 8653);
        CHECK.is("11 digest of ;a;b", x.section(0, 1, 0), 317436);
        CHECK.is("11 digest of nothing", x.section(0, 2, 0), 7);
        CHECK.is("11 the name does not count", x.section(0, 3, 0), 8653);
        String text = ";{B+1};[C#abc-12],[#x],name0;q";
        long digest = 7;
        for (char sign : text.toCharArray()) {
            digest = (31 * digest + sign) % 1000003;
        }
        Check.load(x, 'B', "=h" + text);
        CHECK.is("11 digest of a longer text", x.section(1, 0, 0), digest);
        CHECK.is("11 its lines", x.section(1, 0, 2), 3);
    }

    private static void cycles() {
        LinkAuditor x = new LinkAuditor();
        Check.load(x, 'A', "{B}");
        CHECK.is("12 a page without a source", x.cycles(), 0);
        Check.load(x, 'C', "{A};{D}");
        Check.load(x, 'D', "{D+2}");
        CHECK.is("12 itself", x.cycles(), 8);
        Check.load(x, 'B', "{C}");
        CHECK.is("12 three pages", x.cycles(), 15);
        Check.load(x, 'E', "{A}");
        CHECK.is("12 a page that leads to a cycle", x.cycles(), 15);
        x.remove(1);
        CHECK.is("12 removed", x.cycles(), 8);
        for (char page = 'A'; page <= 'L'; page++) {
            Check.load(x, page, "{" + (page == 'L' ? 'A' : (char) (page + 1)) + "}");
        }
        CHECK.is("12 all pages", x.cycles(), 4095);
        Check.load(x, 'L', "[A]");
        CHECK.is("12 a link is no include", x.cycles(), 0);
    }
}
