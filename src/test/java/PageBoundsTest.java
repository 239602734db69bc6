/** The boundaries that the document names for pages and their expansions: promises 5 to 12. */
public final class PageBoundsTest {
    private static final Check CHECK = new Check();
    private static final int NO_SUCH = -1, BAD_VALUE = -2, BAD_TEXT = -3, NOT_POSSIBLE = -5, NONE = -6;
    /** Not pages, among them numbers that are one if only their lowest bits are looked at. */
    private static final int[] NO_PAGES = {-1, 12, -2, 13, 32, 43, 256, Integer.MIN_VALUE, Integer.MAX_VALUE,
        Integer.MIN_VALUE + 11};
    private static final int ALL = 4095;

    public static void main(String[] args) {
        loadOfEachPage();
        loadOfNoPage();
        loadWithAFault();
        loadOfTheLongestSource();
        loadReplaces();
        removeOfEachPage();
        removeWithoutSource();
        characters();
        abouts();
        aboutOfNothing();
        mostOfAll();
        includedPagesAsASet();
        CHECK.end("PageBoundsTest");
    }

    private static String lines(String line, int times) {
        return (line + ";").repeat(times - 1) + line;
    }

    /** "There are 12 pages, A to L, numbered 0 to 11. Each has a source, or none, as at first." */
    private static void loadOfEachPage() {
        LinkAuditor x = new LinkAuditor();
        int set = 0;
        for (char page = 'A'; page <= 'L'; page++) {
            CHECK.is("5 none at first", x.character(page - 'A', -1), NOT_POSSIBLE);
            CHECK.is("5 load " + page, Check.load(x, page, "=" + (char) (page + 32) + ";p"), 2);
            set |= 1 << page - 'A';
            CHECK.is("5 the set", x.count(0), set);
            CHECK.is("5 the pad is empty", x.count(1), 0);
        }
        CHECK.is("5 all pages", x.count(0), ALL);
        for (char page = 'A'; page <= 'L'; page++) {
            CHECK.same("5 source " + page, Check.source(x, page), "=" + (char) (page + 32) + ";p");
            CHECK.is("5 its heading", x.anchor(page - 'A', 0, 0), page + 32);
        }
    }

    /** "NO_SUCH if there is no such page", which comes before BAD_TEXT. */
    private static void loadOfNoPage() {
        Run run = new Run().loaded('A', "=a;b").loaded('L', "=l;[A]").loaded('A', "=c;d");
        for (String pad : new String[] {"a", "a;", "", "A>B"}) {
            Refusals refusals = new Refusals(CHECK, "5 pad '" + pad + "'", run.typed(pad));
            for (int page : NO_PAGES) {
                refusals.refused("load(" + page + ")", NO_SUCH, x -> x.load(page));
            }
        }
    }

    /** "BAD_TEXT if the pad has a fault as a page": at its first and its last character, and behind it. */
    private static void loadWithAFault() {
        Run run = new Run().loaded('A', "=a;b").loaded('B', "=l;[A#a]").loaded('A', "=c;b");
        String full = "a;".repeat(79);
        for (String pad : new String[] {"", "A", "A>B", "a;", "aA", "abcdefghi", "====a", full + "b;", full + "bA"}) {
            Refusals refusals = new Refusals(CHECK, "5 pad '" + pad + "'", run.typed(pad));
            for (int page : new int[] {0, 1, 2, 11}) {
                refusals.refused("load(" + page + ")", BAD_TEXT, x -> x.load(page));
            }
        }
        LinkAuditor x = run.typed("a;").made();
        CHECK.is("5 refused", x.load(0), BAD_TEXT);
        CHECK.is("5 the pad is as it was", x.put('b'), 3);
        CHECK.is("5 taken", x.load(0), 2);
        CHECK.same("5 the source", Check.source(x, 'A'), "a;b");
    }

    /** The pad's 160 characters as a source; "Returns the number of its lines". */
    private static void loadOfTheLongestSource() {
        String[] longest = {"a;".repeat(79) + "ab", "a,".repeat(79) + "ab", "[A],".repeat(39) + "[#a]",
            "=a;".repeat(53) + "a", "{A};".repeat(39) + "=abc"};
        int[] due = {80, 1, 1, 54, 40};
        for (int index = 0; index < longest.length; index++) {
            LinkAuditor x = new Run().typed(longest[index]).made();
            CHECK.is("5 the pad", x.count(1), 160);
            CHECK.is("5 lines of " + longest[index], x.load(0), due[index]);
            CHECK.is("5 the length", x.character(0, -1), 160);
            CHECK.is("5 about", x.about(0, 0), due[index]);
            CHECK.same("5 all of it", Check.source(x, 'A'), longest[index]);
        }
        LinkAuditor x = new LinkAuditor();
        CHECK.is("5 the shortest", Check.load(x, 'A', "a"), 1);
        CHECK.is("5 its length", x.character(0, -1), 1);
    }

    /** "A source that the page had is replaced." */
    private static void loadReplaces() {
        String longest = "=a;" + lines("[A]", 39) + ";b";
        LinkAuditor x = new Run().loaded('A', longest).loaded('A', "z").made();
        CHECK.same("5 shorter", Check.source(x, 'A'), "z");
        CHECK.is("5 behind it", x.character(0, 1), NONE);
        int[] due = {1, 1, 0, 0, 0, 0, 0, 1};
        for (int what = 0; what < 8; what++) {
            CHECK.is("5 about(0, " + what + ")", x.about(0, what), due[what]);
        }
        CHECK.is("5 no link is left", x.link(0, 0, 0), NO_SUCH);
        CHECK.is("5 no section is left", x.section(0, 0, 0), NO_SUCH);
        CHECK.is("5 no heading is left", x.heading(0, 0, 0), NO_SUCH);
        Check.load(x, 'A', longest);
        CHECK.same("5 longer again", Check.source(x, 'A'), longest);
        CHECK.is("5 its links", x.about(0, 4), 39);
        Check.load(x, 'A', longest);
        CHECK.is("5 the same again is a change, too", x.count(6), 4);
    }

    /** "Returns the set of the pages that still have a source". */
    private static void removeOfEachPage() {
        Run run = new Run();
        for (char page = 'A'; page <= 'L'; page++) {
            run = run.loaded(page, "=" + (char) (page + 32) + ";p");
        }
        LinkAuditor x = run.made();
        int set = ALL;
        for (int page = 11; page >= 0; page--) {
            set &= ~(1 << page);
            CHECK.is("6 remove(" + page + ")", x.remove(page), set);
            CHECK.is("6 the set", x.count(0), set);
            CHECK.is("6 remove(" + page + ") again", x.remove(page), NOT_POSSIBLE);
            CHECK.is("6 no character", x.character(page, 0), NOT_POSSIBLE);
        }
        LinkAuditor first = run.made();
        CHECK.is("6 the first one alone", first.remove(0), ALL - 1);
        CHECK.is("6 the last one", first.remove(11), ALL - 1 - (1 << 11));
    }

    /** "NO_SUCH if there is no such page; NOT_POSSIBLE if it has none." */
    private static void removeWithoutSource() {
        Run none = new Run();
        Run removed = new Run().loaded('A', "=a;b").loaded('B', "=b;[A#a]").removed('A').typed("=x");
        Run undone = new Run().loaded('B', "=b;[A#a]").loaded('A', "=a;b").undone(1);
        for (Run run : new Run[] {none, removed, undone}) {
            Refusals refusals = new Refusals(CHECK, "6 behind " + run.last(), run);
            for (int page : NO_PAGES) {
                refusals.refused("remove(" + page + ")", NO_SUCH, x -> x.remove(page));
            }
            for (int page : new int[] {0, 2, 11}) {
                refusals.refused("remove(" + page + ")", NOT_POSSIBLE, x -> x.remove(page));
            }
        }
    }

    /** "index of the character, or -1 for the length"; "NONE if there is no such character"; errors first. */
    private static void characters() {
        for (String source : new String[] {"a", "=a;[B#c-1]", "a;".repeat(79) + "bc"}) {
            int length = source.length();
            LinkAuditor x = new Run().loaded('L', source).made();
            CHECK.is("7 the length", x.character(11, -1), length);
            CHECK.is("7 the first", x.character(11, 0), source.charAt(0));
            CHECK.is("7 the last", x.character(11, length - 1), source.charAt(length - 1));
            Refusals refusals = new Refusals(CHECK, "7 a source of " + length, new Run().loaded('L', source));
            int[] outside = {length, length + 1, 160, 161, 1920, -2, -160, Integer.MIN_VALUE, Integer.MAX_VALUE};
            for (int index : outside) {
                refusals.refused("character(11, " + index + ")", NONE, y -> y.character(11, index));
                refusals.refused("character(10, " + index + ")", NOT_POSSIBLE, y -> y.character(10, index));
                refusals.refused("character(12, " + index + ")", NO_SUCH, y -> y.character(12, index));
                refusals.refused("character(-1, " + index + ")", NO_SUCH, y -> y.character(-1, index));
            }
            for (int index : new int[] {-1, 0}) {
                refusals.refused("character(0, " + index + ")", NOT_POSSIBLE, y -> y.character(0, index));
                for (int page : NO_PAGES) {
                    refusals.refused("character(" + page + ", " + index + ")", NO_SUCH, y -> y.character(page, index));
                }
            }
        }
        // The source of the next page does not show behind the end of one.
        LinkAuditor x = new Run().loaded('A', "a").loaded('B', "b").made();
        CHECK.is("7 not that of B", x.character(0, 160), NONE);
        CHECK.is("7 not that of A", x.character(1, -160), NONE);
    }

    /** about: NO_SUCH before BAD_VALUE before NOT_POSSIBLE, and what from 0 to 7. */
    private static void abouts() {
        Run run = new Run().loaded('A', "=a;{L};[A]").loaded('L', "=l");
        LinkAuditor x = run.made();
        int[] due = {3, 3, 2, 1, 1, 1, 1 << 11, 1 | 1 << 11};
        for (int what = 0; what < 8; what++) {
            CHECK.is("8 about(0, " + what + ")", x.about(0, what), due[what]);
            CHECK.is("8 about(1, " + what + ")", x.about(1, what), NOT_POSSIBLE);
        }
        Refusals refusals = new Refusals(CHECK, "8", run);
        for (int what : new int[] {-1, 8, 9, Integer.MIN_VALUE, Integer.MAX_VALUE}) {
            refusals.refused("about(0, " + what + ")", BAD_VALUE, y -> y.about(0, what));
            refusals.refused("about(1, " + what + ")", BAD_VALUE, y -> y.about(1, what));
            refusals.refused("about(12, " + what + ")", NO_SUCH, y -> y.about(12, what));
            refusals.refused("about(-1, " + what + ")", NO_SUCH, y -> y.about(-1, what));
        }
        for (int page : NO_PAGES) {
            refusals.refused("about(" + page + ", 0)", NO_SUCH, y -> y.about(page, 0));
            refusals.refused("about(" + page + ", 7)", NO_SUCH, y -> y.about(page, 7));
        }
        refusals.refused("about(1, 0)", NOT_POSSIBLE, y -> y.about(1, 0));
        refusals.refused("about(1, 7)", NOT_POSSIBLE, y -> y.about(1, 7));
    }

    /** What is answered where there is none: a source whose expansion has no line. */
    private static void aboutOfNothing() {
        LinkAuditor x = new Run().loaded('A', "{A}").loaded('B', "{C};{C+2}").loaded('D', "{A};{B}").made();
        int[][] due = {{1, 0, 0, 0, 0, 1, 1, 0}, {2, 0, 0, 0, 0, 2, 4, 0}, null, {2, 0, 0, 0, 0, 2, 3, 0}};
        for (int page : new int[] {0, 1, 3}) {
            for (int what = 0; what < 8; what++) {
                CHECK.is("8 about(" + page + ", " + what + ")", x.about(page, what), due[page][what]);
            }
            CHECK.is("9 no heading", x.heading(page, 0, 0), NO_SUCH);
            CHECK.is("10 no anchor", x.anchor(page, 0, 0), NO_SUCH);
            CHECK.is("11 no section", x.section(page, 0, 0), NO_SUCH);
        }
    }

    /** As many lines, sections, links and includes as 160 characters can hold. */
    private static void mostOfAll() {
        LinkAuditor x = new Run().loaded('A', lines("a", 80)).made();
        CHECK.is("8 lines", x.about(0, 0), 80);
        CHECK.is("8 lines of the expansion", x.about(0, 1), 80);
        x = new Run().loaded('A', lines("=a", 53)).made();
        CHECK.is("8 headings", x.about(0, 2), 53);
        CHECK.is("8 sections", x.about(0, 3), 53);
        CHECK.is("11 the last one", x.section(0, 52, 1), 52);
        CHECK.is("11 none behind", x.section(0, 53, 1), NO_SUCH);
        x = new Run().loaded('A', lines("=a", 53) + ";z").made();
        CHECK.is("11 a line in the last one", x.section(0, 52, 2), 1);
        CHECK.is("11 none in the one before", x.section(0, 51, 2), 0);
        x = new Run().loaded('A', "[A],".repeat(39) + "[B]").made();
        CHECK.is("8 links", x.about(0, 4), 40);
        CHECK.is("16 the last one", x.link(0, 39, 1), 1);
        CHECK.is("16 none behind", x.link(0, 40, 1), NO_SUCH);
        x = new Run().loaded('A', lines("[A]", 40)).made();
        CHECK.is("8 links of as many lines", x.about(0, 4), 40);
        x = new Run().loaded('A', lines("{B}", 40)).loaded('B', "=b").made();
        CHECK.is("8 includes", x.about(0, 5), 40);
        CHECK.is("8 headings", x.about(0, 2), 40);
    }

    /** "Sets are bit masks: bit k stands for number k", for the first and the last page and for all. */
    private static void includedPagesAsASet() {
        Run run = new Run();
        StringBuilder all = new StringBuilder();
        for (char page = 'A'; page <= 'L'; page++) {
            all.append("{").append(page).append("};");
        }
        for (char page = 'A'; page <= 'L'; page++) {
            run = run.loaded(page, page == 'C' ? all + "c" : "" + (char) (page + 32));
        }
        LinkAuditor x = run.made();
        CHECK.is("8 all are included", x.about(2, 6), ALL);
        CHECK.is("8 all have lines there", x.about(2, 7), ALL);
        CHECK.is("8 as many lines", x.about(2, 1), 12);
        CHECK.is("8 included twice is included", Check.load(x, 'D', "{A};{A+1};{L}"), 3);
        CHECK.is("8 the set", x.about(3, 6), 1 | 1 << 11);
        CHECK.is("8 the includes", x.about(3, 5), 3);
        CHECK.is("8 a page has only its own", x.about(11, 7), 1 << 11);
    }
}
