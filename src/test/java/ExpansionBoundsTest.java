/** The boundaries of expansions, headings, anchors, sections and cycles: promises 8 to 12, and the terms for them. */
public final class ExpansionBoundsTest {
    private static final Check CHECK = new Check();
    private static final int NO_SUCH = -1, BAD_VALUE = -2, NONE = -6;
    private static final int DIRECT = 0, DANGLING = 4;
    private static final int[] FAR = {Integer.MIN_VALUE, -2, 100, 101, 256, Integer.MAX_VALUE};

    public static void main(String[] args) {
        hundredLines();
        hundredHeadings();
        hundredthLineOfAnInclude();
        hundredthLineDeepInside();
        linesOfTheEndedExpansion();
        twoHundredIncludes();
        twoHundredIncludesOneInside();
        leftOutIncludesDoNotCount();
        twoHundredIncludesOfEachExpansion();
        pagesUnderWay();
        deepestInclude();
        levelsByIncludes();
        headingErrors();
        numbersOfHeadings();
        numbersOfTenParts();
        anchorsOfTheSameName();
        anchorErrors();
        CHECK.end("ExpansionBoundsTest");
    }

    private static String lines(String line, int times) {
        return (line + ";").repeat(times - 1) + line;
    }

    private static void about(LinkAuditor x, int page, int what, int due) {
        CHECK.is("8 about(" + page + ", " + what + ")", x.about(page, what), due);
    }

    /** "The expansion ends with its 100th line (of headings and paragraphs; all further ones are left out)." */
    private static void hundredLines() {
        Run run = new Run().loaded('B', lines("b", 80)).loaded('C', "[A#z]");
        for (int own = 18; own <= 22; own++) {
            String source = "{B};" + "a;".repeat(own - 1) + "=z";
            LinkAuditor x = run.loaded('A', source).made();
            boolean there = 80 + own <= 100;
            about(x, 0, 0, own + 1);
            about(x, 0, 1, Math.min(80 + own, 100));
            about(x, 0, 2, there ? 1 : 0);
            about(x, 0, 3, 1);
            about(x, 0, 7, 3);
            CHECK.is("9 the heading of " + source, x.heading(0, 0, 0), there ? 1 : NO_SUCH);
            CHECK.is("10 its anchor", x.anchor(0, 0, 0), there ? 'z' : NO_SUCH);
            CHECK.is("11 its section", x.section(0, 0, 1), there ? 0 : NONE);
            CHECK.is("11 its digest", x.section(0, 0, 0), 7);
            CHECK.is("16 a link to it", x.link(2, 0, 0), there ? DIRECT : DANGLING);
            CHECK.is("16 its heading", x.link(2, 0, 5), there ? 0 : NONE);
        }
    }

    /** The same with headings alone: the 100th of them is there, the 101st is not. */
    private static void hundredHeadings() {
        Run run = new Run().loaded('B', lines("=b", 49)).loaded('C', "[A#b-97],[A#b-98],[A#z-1],[A#z-2]");
        LinkAuditor x = run.loaded('A', "{B};{B};=z;=z;=z").made();
        about(x, 0, 1, 100);
        about(x, 0, 2, 100);
        about(x, 0, 3, 3);
        CHECK.is("9 the 100th", x.heading(0, 99, 3), 100);
        CHECK.is("9 no 101st", x.heading(0, 100, 3), NO_SUCH);
        CHECK.is("10 the 100th", x.anchor(0, 99, 2), '1');
        CHECK.is("10 no 101st", x.anchor(0, 100, 0), NO_SUCH);
        int[] headings = {98, 99, NONE};
        for (int section = 0; section < 3; section++) {
            CHECK.is("11 section " + section, x.section(0, section, 1), headings[section]);
        }
        int[] kinds = {DIRECT, DANGLING, DIRECT, DANGLING};
        for (int link = 0; link < 4; link++) {
            CHECK.is("16 link " + link, x.link(2, link, 0), kinds[link]);
        }
        x = run.loaded('A', "{B};{B};{B}").made();
        about(x, 0, 2, 100);
        about(x, 0, 7, 2);
        CHECK.is("16 b-97", x.link(2, 0, 5), 97);
        CHECK.is("16 b-98", x.link(2, 1, 5), 98);
        CHECK.is("9 the length of b-99", x.heading(0, 99, 2), 4);
    }

    /** The 100th line may fall in the midst of an include; an include as such is no line. */
    private static void hundredthLineOfAnInclude() {
        Run run = new Run().loaded('B', lines("b", 80)).loaded('D', "p;q;=r;s");
        for (int own = 15; own <= 20; own++) {
            LinkAuditor x = run.loaded('A', "{B};" + "a;".repeat(own) + "{L};{A};{D};t").made();
            int inside = Math.min(4, 20 - own);
            about(x, 0, 1, Math.min(100, 80 + own + 4 + 1));
            about(x, 0, 2, inside >= 3 ? 1 : 0);
            about(x, 0, 7, inside >= 1 ? 1 | 2 | 8 : 1 | 2);
        }
    }

    /** The end of the expansion ends it at every depth, also that of the pages around. */
    private static void hundredthLineDeepInside() {
        for (int lines = 76; lines <= 80; lines++) {
            Run run = new Run().loaded('L', lines("l", lines)).loaded('D', "d;{L};d").loaded('C', "c;{D};c");
            LinkAuditor x = run.loaded('B', "b;{C};b").loaded('A', "a;{B};" + lines("a", 14) + ";=z").made();
            int before = 1 + 3 + lines + 3 + 14;
            about(x, 0, 1, Math.min(before + 1, 100));
            about(x, 0, 2, before < 100 ? 1 : 0);
            CHECK.is("11 the section behind", x.section(0, 0, 1), before < 100 ? 0 : NONE);
        }
        // The 100th line is the last one of the innermost page: no line of those around follows.
        Run run = new Run().loaded('L', lines("l", 48)).loaded('D', "d;{L};{L};=d").loaded('C', "c;{D};=c");
        LinkAuditor x = run.loaded('B', "b;{C};=b").loaded('A', "a;{B};=a").made();
        about(x, 0, 1, 100);
        about(x, 0, 2, 0);
        about(x, 1, 2, 1);
        about(x, 2, 2, 2);
        about(x, 2, 1, 100);
        about(x, 3, 2, 1);
        about(x, 3, 1, 98);
    }

    /** "itself included, if it has a line there": none is left behind the 100th line of others. */
    private static void linesOfTheEndedExpansion() {
        for (int lines = 49; lines <= 51; lines++) {
            LinkAuditor x = new Run().loaded('B', lines("b", lines)).loaded('A', "{B};{B};a;{C}").loaded('C', "c").made();
            about(x, 0, 1, 100);
            about(x, 0, 7, lines == 49 ? 1 | 2 | 4 : 2);
        }
        LinkAuditor x = new Run().loaded('B', lines("b", 49)).loaded('A', "{B};{B};a;{C};{D}").loaded('C', "c").made();
        about(x, 0, 7, 1 | 2 | 4);
        Check.load(x, 'D', "d");
        about(x, 0, 7, 1 | 2 | 4);
        about(x, 0, 1, 100);
        about(x, 0, 6, 2 | 4 | 8);
    }

    /**
     * "At most 200 includes are replaced in an expansion, in the order in which they are met; all
     * further ones are left out." C is replaced by nothing, B by 40 of C, which makes 41 includes.
     */
    private static Run withEmptyIncludes() {
        return new Run().loaded('C', "{A}").loaded('B', lines("{C}", 40)).loaded('D', "=d");
    }

    private static void twoHundredIncludes() {
        for (int more = 30; more <= 36; more++) {
            // 4 * 41 by B, and 1 + more by E, before the five of D.
            Run run = withEmptyIncludes().loaded('E', lines("{C}", more));
            LinkAuditor x = run.loaded('A', "{B};{B};{B};{B};{E};{D};{D};p;{D};{D};{D};=z").made();
            int left = Math.min(5, Math.max(0, 200 - 4 * 41 - 1 - more));
            about(x, 0, 2, left + 1);
            about(x, 0, 1, left + 2);
            about(x, 0, 5, 10);
            about(x, 0, 6, 2 | 8 | 16);
            about(x, 0, 7, left > 0 ? 1 | 8 : 1);
            CHECK.is("11 lines behind go on, " + more, x.section(0, 0, 1), left);
            for (int heading = 0; heading < left; heading++) {
                CHECK.is("9 from D, " + more, x.heading(0, heading, 1), 3);
            }
        }
    }

    /** The 200th include inside of another one: what that one has behind it is still there. */
    private static void twoHundredIncludesOneInside() {
        for (int more = 30; more <= 36; more++) {
            Run run = withEmptyIncludes().loaded('E', lines("{C}", more)).loaded('F', "=f;{D};{D};=g;{D};=h");
            LinkAuditor x = run.loaded('A', "{B};{B};{B};{B};{E};{F};=z").made();
            int left = 200 - 4 * 41 - 1 - more;
            int inside = left >= 1 ? 3 + Math.min(3, left - 1) : 0;
            about(x, 0, 2, inside + 1);
            CHECK.is("11 behind, " + more, x.section(0, 0, 1), inside);
            // The page itself is expanded anew and has includes enough.
            about(x, 5, 2, 6);
        }
    }

    /** An include of a page without a source, or of one under way, is left out and not replaced. */
    private static void leftOutIncludesDoNotCount() {
        Run run = withEmptyIncludes().loaded('E', lines("{C}", 33)).loaded('F', "{K};{A};{F}");
        LinkAuditor x = run.loaded('A', "{K};{A};{B};{A};{B};{L};{B};{B};{K};{E};{A};{D};{K};{D};{D};=z").made();
        about(x, 0, 2, 3);
        CHECK.is("11 two of D", x.section(0, 0, 1), 2);
        // F is replaced itself, but none of its three: then only one of D is.
        x = run.loaded('A', "{B};{B};{B};{B};{F};{E};{D};{D};=z").made();
        about(x, 0, 2, 2);
        CHECK.is("11 one of D", x.section(0, 0, 1), 1);
    }

    /** The 200 includes and the 100 lines are those of one expansion, not of all that were made. */
    private static void twoHundredIncludesOfEachExpansion() {
        Run run = new Run().loaded('B', "=b").loaded('A', lines("{B}", 40)).loaded('C', lines("{A}", 2) + ";=c");
        for (int times = 0; times < 30; times++) {
            run = run.loaded('D', "d" + times);
        }
        LinkAuditor x = run.made();
        about(x, 0, 1, 40);
        about(x, 0, 2, 40);
        about(x, 2, 1, 81);
        CHECK.is("11 the heading of C", x.section(2, 0, 1), 80);
        for (int times = 0; times < 30; times++) {
            x.remove(1);
            about(x, 0, 2, 0);
            x.undo();
            about(x, 0, 2, 40);
        }
    }

    /** "is one whose expansion is under way (the page itself, or one in which it is included)". */
    private static void pagesUnderWay() {
        LinkAuditor x = new Run().loaded('A', "=a;{A};=b").made();
        about(x, 0, 1, 2);
        x = new Run().loaded('A', "=a;{B};=aa").loaded('B', "=b;{A};{B};{C};=bb").loaded('C', "=c;{A};{B};{C}").made();
        anchors(x, 'A', "a", "b", "c", "bb", "aa");
        anchors(x, 'B', "b", "a", "aa", "c", "a-1", "aa-1", "bb");
        anchors(x, 'C', "c", "a", "b", "bb", "aa", "b-1", "a-1", "aa-1", "bb-1");
        // A page whose expansion has ended is taken again, also inside of another one.
        x = new Run().loaded('A', "{B};{B};{C};{B}").loaded('B', "=b").loaded('C', "{B};{B}").made();
        anchors(x, 'A', "b", "b-1", "b-2", "b-3", "b-4");
    }

    private static void anchors(LinkAuditor x, char page, String... due) {
        about(x, page - 'A', 2, due.length);
        for (int heading = 0; heading < due.length; heading++) {
            CHECK.same("10 anchor " + heading + " of " + page, Check.anchor(x, page, heading), due[heading]);
        }
    }

    /** All twelve pages, one in the other, and the last one includes all of them. */
    private static void deepestInclude() {
        Run run = new Run();
        for (char page = 'A'; page < 'L'; page++) {
            run = run.loaded(page, "=" + (char) (page + 32) + ";{" + (char) (page + 1) + "};x");
        }
        LinkAuditor x = run.loaded('L', "=l;{A};{B};{C};{D};{E};{F};{G};{H};{I};{J};{K};{L}").made();
        about(x, 0, 2, 12);
        about(x, 0, 1, 23);
        about(x, 0, 7, 4095);
        CHECK.is("9 the innermost", x.heading(0, 11, 1), 11);
        CHECK.is("12 all are in cycles", x.cycles(), 4095);
        x.remove(11);
        about(x, 0, 1, 22);
        about(x, 0, 7, 2047);
        CHECK.is("12 none is in a cycle", x.cycles(), 0);
    }

    /** "increased by the number behind + (0 without one)", once for each include around. */
    private static void levelsByIncludes() {
        String[] includes = {"{B}", "{B+0}", "{B+1}", "{B+2}"};
        int[] more = {0, 0, 1, 2};
        for (int index = 0; index < includes.length; index++) {
            LinkAuditor x = new Run().loaded('B', "=a;==b;===c").loaded('A', includes[index] + ";=d").made();
            for (int heading = 0; heading < 3; heading++) {
                CHECK.is("9 " + includes[index], x.heading(0, heading, 0), heading + 1 + more[index]);
            }
            CHECK.is("9 behind the include", x.heading(0, 3, 0), 1);
            CHECK.is("9 in its own page", x.heading(1, 2, 0), 3);
        }
        Run run = new Run().loaded('L', "=x;===y");
        for (char page = 'A'; page < 'L'; page++) {
            run = run.loaded(page, "{" + (char) (page + 1) + "+2}");
        }
        LinkAuditor x = run.made();
        for (int page = 0; page < 12; page++) {
            CHECK.is("9 level of x in " + page, x.heading(page, 0, 0), 1 + 2 * (11 - page));
            CHECK.is("9 level of y in " + page, x.heading(page, 1, 0), 3 + 2 * (11 - page));
        }
    }

    /** heading: NO_SUCH "if there is no such page or heading" before BAD_VALUE; what from 0 to 12. */
    private static void headingErrors() {
        Run run = new Run().loaded('A', "=a;==b").loaded('B', "p");
        Refusals refusals = new Refusals(CHECK, "9", run);
        int[][] headings = {{-1, 0}, {12, 0}, {Integer.MIN_VALUE, 0}, {Integer.MAX_VALUE, 0}, {32, 0}, {0, -1}, {0, 2},
            {1, 0}, {2, 0}, {1, -1}, {11, 0}};
        for (int[] pair : headings) {
            for (int what : new int[] {-1, 0, 12, 13}) {
                String call = "heading(" + pair[0] + ", " + pair[1] + ", " + what + ")";
                refusals.refused(call, NO_SUCH, x -> x.heading(pair[0], pair[1], what));
            }
        }
        for (int far : FAR) {
            refusals.refused("heading(0, " + far + ", 0)", NO_SUCH, x -> x.heading(0, far, 0));
            refusals.refused("heading(0, 1, " + far + ")", BAD_VALUE, x -> x.heading(0, 1, far));
        }
        refusals.refused("heading(0, 0, -1)", BAD_VALUE, x -> x.heading(0, 0, -1));
        refusals.refused("heading(0, 1, 13)", BAD_VALUE, x -> x.heading(0, 1, 13));
        LinkAuditor x = run.made();
        int[] due = {2, 0, 1, 1, 1, 0, 0, 0, 0, 0, 0, 0, 0};
        for (int what = 0; what <= 12; what++) {
            CHECK.is("9 heading(0, 1, " + what + ")", x.heading(0, 1, what), due[what]);
        }
    }

    private static void number(LinkAuditor x, char page, int heading, int... parts) {
        for (int part = 0; part < 10; part++) {
            int due = part < parts.length ? parts[part] : 0;
            String call = "9 heading(" + page + ", " + heading + ", " + (3 + part) + ")";
            CHECK.is(call, x.heading(page - 'A', heading, 3 + part), due);
        }
    }

    /** "0 at the beginning of the expansion"; "those of all higher levels become 0"; 0 behind the last part. */
    private static void numbersOfHeadings() {
        LinkAuditor x = new Run().loaded('A', "===a;===b;==c;===d;=e;===f;==g;=h;==i").made();
        number(x, 'A', 0, 0, 0, 1);
        number(x, 'A', 1, 0, 0, 2);
        number(x, 'A', 2, 0, 1);
        number(x, 'A', 3, 0, 1, 1);
        number(x, 'A', 4, 1);
        number(x, 'A', 5, 1, 0, 1);
        number(x, 'A', 6, 1, 1);
        number(x, 'A', 7, 2);
        number(x, 'A', 8, 2, 1);
        // Counters go on through includes, and begin anew in the expansion of the included page.
        Check.load(x, 'B', "=p;{A};==q;{A+1}");
        number(x, 'B', 1, 1, 0, 1);
        number(x, 'B', 10, 3, 2);
        number(x, 'B', 11, 3, 2, 0, 1);
        number(x, 'B', 19, 3, 4, 1);
        // The highest counter: 100 headings of one level.
        x = new Run().loaded('C', lines("=c", 50)).loaded('D', "{C+1};{C+1}").made();
        number(x, 'D', 98, 0, 99);
        number(x, 'D', 99, 0, 100);
    }

    /** "3 to 12 part 1 to 10 of its number (0 behind its last part)", for headings of 9, 10 and 11 levels. */
    private static void numbersOfTenParts() {
        Run run = new Run().loaded('E', "==x;===y;===z").loaded('D', "{E+2}").loaded('C', "{D+2}").loaded('B', "{C+2}");
        LinkAuditor x = run.loaded('A', "{B+2};{B+1};=a;{B+2}").made();
        CHECK.is("9 level 10", x.heading(0, 0, 0), 10);
        number(x, 'A', 0, 0, 0, 0, 0, 0, 0, 0, 0, 0, 1);
        CHECK.is("9 level 11", x.heading(0, 1, 0), 11);
        number(x, 'A', 1, 0, 0, 0, 0, 0, 0, 0, 0, 0, 1);
        number(x, 'A', 2, 0, 0, 0, 0, 0, 0, 0, 0, 0, 1);
        CHECK.is("9 level 9", x.heading(0, 3, 0), 9);
        number(x, 'A', 3, 0, 0, 0, 0, 0, 0, 0, 0, 1);
        number(x, 'A', 4, 0, 0, 0, 0, 0, 0, 0, 0, 1, 1);
        number(x, 'A', 5, 0, 0, 0, 0, 0, 0, 0, 0, 1, 2);
        number(x, 'A', 6, 1);
        number(x, 'A', 7, 1, 0, 0, 0, 0, 0, 0, 0, 0, 1);
        number(x, 'A', 9, 1, 0, 0, 0, 0, 0, 0, 0, 0, 1);
    }

    /** "its name if no heading before it has this name; otherwise its name, "-", and the number of headings before". */
    private static void anchorsOfTheSameName() {
        LinkAuditor x = new Run().loaded('A', "=a;=a1;=a;==a1;=b;===a;=a11").made();
        anchors(x, 'A', "a", "a1", "a-1", "a1-1", "b", "a-2", "a11");
        // The first and the last letter and digit at each place.
        x = new Run().loaded('A', "=a;=z;=a0;=a9;=z0;=z9;=az09az09;=zzzzzzzz;=z0000000;=a9999999;=aaaaaaaa").made();
        anchors(x, 'A', "a", "z", "a0", "a9", "z0", "z9", "az09az09", "zzzzzzzz", "z0000000", "a9999999", "aaaaaaaa");
        for (String name : new String[] {"a", "abcdefgh", "z9999999"}) {
            x = new Run().loaded('B', lines("=" + name, 10)).loaded('A', lines("{B}", 10)).made();
            about(x, 0, 2, 100);
            CHECK.same("10 none before", Check.anchor(x, 'A', 0), name);
            int[] before = {1, 9, 10, 11, 19, 20, 90, 99};
            for (int heading : before) {
                CHECK.same("10 " + heading + " before", Check.anchor(x, 'A', heading), name + "-" + heading);
                int length = name.length() + (heading < 10 ? 2 : 3);
                CHECK.is("9 its length", x.heading(0, heading, 2), length);
                CHECK.is("10 its last character", x.anchor(0, heading, length - 1), '0' + heading % 10);
                CHECK.is("10 none behind", x.anchor(0, heading, length), NONE);
            }
        }
    }

    /** anchor: NO_SUCH "if there is no such page or heading", and only then NONE. */
    private static void anchorErrors() {
        Run run = new Run().loaded('A', "=a;==abcdefgh;=a").loaded('B', "p");
        LinkAuditor x = run.made();
        int[] lengths = {1, 8, 3};
        for (int heading = 0; heading < 3; heading++) {
            for (int index : new int[] {-1, lengths[heading], 11, 12, Integer.MIN_VALUE, Integer.MAX_VALUE}) {
                CHECK.is("10 anchor(0, " + heading + ", " + index + ")", x.anchor(0, heading, index), NONE);
            }
            CHECK.is("10 the last", x.anchor(0, heading, lengths[heading] - 1), "ah1".charAt(heading));
        }
        Refusals refusals = new Refusals(CHECK, "10", run);
        int[][] headings = {{-1, 0}, {12, 0}, {32, 0}, {Integer.MIN_VALUE, 0}, {Integer.MAX_VALUE, 0}, {0, -1}, {0, 3},
            {0, Integer.MIN_VALUE}, {0, Integer.MAX_VALUE}, {1, 0}, {2, 0}, {11, 0}};
        for (int[] pair : headings) {
            for (int index : new int[] {-1, 0, 99}) {
                String call = "anchor(" + pair[0] + ", " + pair[1] + ", " + index + ")";
                refusals.refused(call, NO_SUCH, y -> y.anchor(pair[0], pair[1], index));
            }
        }
    }
}
