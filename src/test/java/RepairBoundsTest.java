/** The boundaries of repairs: promises 20 to 23, candidates, costs and ties. */
public final class RepairBoundsTest {
    private static final Check CHECK = new Check();
    private static final int NO_SUCH = -1, BAD_VALUE = -2, TOO_MANY = -4, NOT_POSSIBLE = -5, NONE = -6;
    private static final int DIRECT = 0, REDIRECTED = 1, CIRCULAR = 2, LOST = 3, DANGLING = 4;
    private static final int[][] NO_LINKS = {{-1, 0}, {12, 0}, {32, 0}, {Integer.MIN_VALUE, 0}, {Integer.MAX_VALUE, 0},
        {0, -1}, {0, 5}, {0, 40}, {0, Integer.MIN_VALUE}, {0, Integer.MAX_VALUE}, {1, 0}, {2, 0}, {11, 0}};

    public static void main(String[] args) {
        repairErrors();
        costsWithoutAnchor();
        oneStep();
        twoAndThreeSteps();
        stepsInOtherPages();
        stepsOfLongAnchors();
        tiesOfPages();
        tiesWithinAPage();
        costOne();
        costOneBySections();
        placesAsTheyAreWritten();
        onlyHeadingsThatAreThere();
        mendErrors();
        mendOfEachKind();
        lettersThatAreLeftOut();
        mendUpTo160();
        mendFindsAnew();
        mendAllOfNothing();
        mendAllUpTo160();
        mendAllInOrder();
        straightenErrors();
        straightenUpTo160();
        CHECK.end("RepairBoundsTest");
    }

    private static void repair(Run run, char page, int link, int... due) {
        LinkAuditor x = run.made();
        for (int what = 0; what < 3; what++) {
            String call = "20 repair(" + page + ", " + link + ", " + what + ") of " + Check.source(x, page);
            CHECK.is(call, x.repair(page - 'A', link, what), due[what]);
        }
    }

    /** A text of this length: its beginning, and names behind it. */
    private static String filled(String begin, int length) {
        StringBuilder text = new StringBuilder(begin);
        while (text.length() < length) {
            text.append(length - text.length() == 1 ? "n" : ",n");
        }
        return text.toString();
    }

    /** Page A has a link of each kind, DIRECT to DANGLING, in their order. */
    private static Run withAllKinds() {
        Run run = new Run().loaded('B', "b").loaded('A', "=abc;[#abc],[C],[D],[L],[#abd]");
        return run.redirected("C>B").redirected("D>E").redirected("E>D");
    }

    /** repair: NO_SUCH, BAD_VALUE, NOT_POSSIBLE in this order; what from 0 to 2. */
    private static void repairErrors() {
        Run run = withAllKinds().typed("p");
        for (int kind = DIRECT; kind <= DANGLING; kind++) {
            CHECK.is("16 kind", run.made().link(0, kind, 0), kind);
        }
        Refusals refusals = new Refusals(CHECK, "20", run);
        for (int[] pair : NO_LINKS) {
            for (int what : new int[] {-1, 0, 2, 3}) {
                String call = "repair(" + pair[0] + ", " + pair[1] + ", " + what + ")";
                refusals.refused(call, NO_SUCH, x -> x.repair(pair[0], pair[1], what));
            }
        }
        for (int kind = DIRECT; kind <= DANGLING; kind++) {
            int link = kind;
            for (int what : new int[] {-1, 3, 4, Integer.MIN_VALUE, Integer.MAX_VALUE}) {
                refusals.refused("repair(0, " + link + ", " + what + ")", BAD_VALUE, x -> x.repair(0, link, what));
            }
        }
        for (int good : new int[] {DIRECT, REDIRECTED}) {
            for (int number = 0; number <= 2; number++) {
                int what = number;
                refusals.refused("repair(0, " + good + ", " + what + ")", NOT_POSSIBLE, x -> x.repair(0, good, what));
            }
        }
        repair(run, 'A', CIRCULAR, 6, 1, NONE);
        repair(run, 'A', LOST, 14, 1, NONE);
        repair(run, 'A', DANGLING, 2, 0, 0);
        // A call that only asks changes nothing, either.
        refusals.refused("repair(0, 4, 2)", 0, x -> x.repair(0, 4, 2));
        refusals.refused("repair(0, 3, 2)", NONE, x -> x.repair(0, 3, 2));
    }

    /** "if the link has none, 4 + the difference of the numbers of both pages". */
    private static void costsWithoutAnchor() {
        for (int page = 1; page < 12; page++) {
            char letter = (char) ('A' + page);
            repair(new Run().loaded('A', "=" + (char) (letter + 32) + ";[" + letter + "]"), 'A', 0, 4 + page, 0, NONE);
            char other = (char) ('A' + page - 1);
            repair(new Run().loaded('L', "=a;[" + other + "]"), 'L', 0, 4 + 11 - (page - 1), 11, NONE);
        }
        // The same difference on both sides, and one less above.
        repair(new Run().loaded('C', "[E]").loaded('G', "g"), 'C', 0, 6, 2, NONE);
        repair(new Run().loaded('C', "[E]").loaded('F', "f"), 'C', 0, 5, 5, NONE);
        repair(new Run().loaded('G', "[E]").loaded('C', "c"), 'G', 0, 6, 2, NONE);
        // No heading is a candidate, not even that of a section that was there.
        Run moved = new Run().loaded('B', "=b;p").removed('B').loaded('L', "=b;p").loaded('A', "[B]");
        repair(moved, 'A', 0, 5, 0, NONE);
    }

    /** "A step changes, removes or inserts one character", at the beginning, inside and at the end. */
    private static void oneStep() {
        for (String written : new String[] {"xbcd", "axcd", "abcx", "bcd", "acd", "abc", "xabcd", "abxcd", "abcdx", "abc9"}) {
            repair(new Run().loaded('A', "=p;=abcd;[#" + written + "]"), 'A', 0, 2, 0, 1);
        }
        repair(new Run().loaded('A', "=a;=a;[#a-2]"), 'A', 0, 2, 0, 1);
        repair(new Run().loaded('A', "=a;[#a1]"), 'A', 0, 2, 0, 0);
        repair(new Run().loaded('A', "=a;[#b]"), 'A', 0, 2, 0, 0);
        repair(new Run().loaded('A', "=a;=a;[#a-10]"), 'A', 0, 2, 0, 1);
    }

    /** Two steps cost 4, less than the page as a whole; three cost 6, as much as it, which comes first then. */
    private static void twoAndThreeSteps() {
        for (String two : new String[] {"xycd", "axyd", "abxy", "cd", "ab", "ad", "xyabcd", "abcdxy", "abxd9", "bacd", "abdc",
            "xabc", "bcdx", "abcd-1"}) {
            repair(new Run().loaded('A', "=abcd;[#" + two + "]"), 'A', 0, 4, 0, 0);
        }
        for (String three : new String[] {"xyzd", "axyz", "a", "d", "xyzabcd", "abcdxyz", "abcd-12", "badx", "dcba", "wxyz",
            "abcdefgh-99"}) {
            repair(new Run().loaded('A', "=abcd;[#" + three + "]"), 'A', 0, 6, 0, NONE);
        }
        // Removing the number is two steps for one digit and three for two.
        repair(new Run().loaded('A', "=abcdefgh;[#abcdefgh-9]"), 'A', 0, 4, 0, 0);
        repair(new Run().loaded('A', "=abcdefgh;[#abcdefgh-10]"), 'A', 0, 6, 0, NONE);
    }

    /** "+ 4 if its page is not P"; without an anchor "6, and 4 more if its page is not P". */
    private static void stepsInOtherPages() {
        String[] written = {"abcd", "abcx", "abxy", "axyz", "wxyz"};
        int[] costs = {4, 6, 8, 10, 10};
        for (int steps = 0; steps < written.length; steps++) {
            // P has no source: the heading of B, or the first page as a whole.
            Run lost = new Run().loaded('A', "[C#" + written[steps] + "]").loaded('B', "=abcd");
            repair(lost, 'A', 0, costs[steps], steps < 3 ? 1 : 0, steps < 3 ? 0 : NONE);
            // P has one: its page as a whole costs 6.
            Run dangling = new Run().loaded('C', "[#" + written[steps] + "]").loaded('D', "=abcd");
            repair(dangling, 'C', 0, Math.min(6, costs[steps]), steps < 1 ? 3 : 2, steps < 1 ? 0 : NONE);
        }
        // The page that counts is the one that the link names, not the one in which it stands.
        repair(new Run().loaded('A', "=abcd;[B#abcx]").loaded('B', "=qqqq"), 'A', 0, 6, 0, 0);
        repair(new Run().loaded('A', "=abcd;[B#abcx]").loaded('B', "=abcy"), 'A', 0, 2, 1, 0);
        repair(new Run().loaded('A', "=abcd;[B#abcd]").loaded('B', "=abcy"), 'A', 0, 2, 1, 0);
    }

    /** The longest anchors have 11 characters, and all of them count. */
    private static void stepsOfLongAnchors() {
        String twelve = "=abcdefgh;".repeat(11) + "=abcdefgh";
        Run run = new Run().loaded('B', twelve);
        repair(run.loaded('A', "[B#abcdefgh-12]"), 'A', 0, 2, 1, 1);
        repair(run.loaded('A', "[C#abcdefgh-11]"), 'A', 0, 4, 1, 11);
        repair(run.loaded('A', "[C#abcdefgh-10]"), 'A', 0, 4, 1, 10);
        repair(run.loaded('A', "[C#xbcdefgh-10]"), 'A', 0, 6, 1, 10);
        repair(run.loaded('A', "[C#abcdefgx-11]"), 'A', 0, 6, 1, 11);
        repair(run.loaded('A', "[B#xbcdefgh-11]"), 'A', 0, 2, 1, 11);
        repair(run.loaded('A', "[B#xycdefgh-11]"), 'A', 0, 4, 1, 11);
        repair(run.loaded('A', "[B#xyzdefgh-11]"), 'A', 0, 6, 1, NONE);
        repair(run.loaded('A', "[B#abcdefgh-91]"), 'A', 0, 2, 1, 1);
        repair(new Run().loaded('A', "=a;[#abcdefgh-99]"), 'A', 0, 6, 0, NONE);
        repair(new Run().loaded('A', "=abcdefgh;[#a]"), 'A', 0, 6, 0, NONE);
    }

    /** "of several, that of the page with the lowest number". */
    private static void tiesOfPages() {
        // 6 by one step elsewhere and by the page itself: the lower number wins, whichever it is.
        repair(new Run().loaded('A', "=ab").loaded('B', "[#ac]"), 'B', 0, 6, 0, 0);
        repair(new Run().loaded('C', "=ab").loaded('B', "[#ac]"), 'B', 0, 6, 1, NONE);
        // 4 by no step elsewhere and by two steps in the page.
        repair(new Run().loaded('A', "=abcd").loaded('B', "=abxy;[#abcd]"), 'B', 0, 4, 0, 0);
        repair(new Run().loaded('C', "=abcd").loaded('B', "=abxy;[#abcd]"), 'B', 0, 4, 1, 0);
        // 10 by pages as a whole, the first and the last one.
        repair(new Run().loaded('L', "[C#z]").loaded('A', "a"), 'L', 0, 10, 0, NONE);
        repair(new Run().loaded('A', "[C#z]").loaded('L', "l"), 'A', 0, 10, 0, NONE);
        repair(new Run().loaded('L', "[C#z]").loaded('K', "=q"), 'L', 0, 6, 10, 0);
    }

    /** "of several of one page, the page without an anchor first, then its headings in their order". */
    private static void tiesWithinAPage() {
        repair(new Run().loaded('A', "=ab;=ac;[#ad]"), 'A', 0, 2, 0, 0);
        repair(new Run().loaded('A', "=xb;=ab;=ac;[#ad]"), 'A', 0, 2, 0, 1);
        repair(new Run().loaded('A', "=abcd;=ab;[#ax]"), 'A', 0, 2, 0, 1);
        repair(new Run().loaded('A', "=abcde;[#xyzde]"), 'A', 0, 6, 0, NONE);
        // Included headings are candidates, in the order of the expansion.
        repair(new Run().loaded('B', "=ab").loaded('A', "{B};=ac;[#ad]"), 'A', 0, 2, 0, 0);
        repair(new Run().loaded('B', "=ab").loaded('A', "=ac;{B};[#ad]"), 'A', 0, 2, 0, 0);
        repair(new Run().loaded('B', "=ab").loaded('A', "=zz;{B};[#ad]"), 'A', 0, 2, 0, 1);
    }

    /** "1, if the memory has an entry with P and w, and the candidate is the anchor of a section with the same digest." */
    private static void costOne() {
        Run moved = new Run().loaded('C', "=old;p").removed('C');
        // It is less than one step in the page, and than the same anchor elsewhere.
        repair(moved.loaded('B', "=new;p").loaded('A', "=old;[C#old]"), 'A', 0, 1, 1, 0);
        repair(moved.loaded('C', "=ol;q").loaded('L', "=new;p").loaded('A', "[C#old]"), 'A', 0, 1, 11, 0);
        // Another page or another anchor than that of the entry; another digest.
        repair(moved.loaded('B', "=new;p").loaded('A', "[D#old]"), 'A', 0, 10, 0, NONE);
        repair(moved.loaded('B', "=new;p").loaded('A', "[C#old-1]"), 'A', 0, 10, 0, NONE);
        repair(moved.loaded('B', "=new;p").loaded('A', "[C#ol]"), 'A', 0, 10, 0, NONE);
        repair(moved.loaded('B', "=new;q").loaded('A', "[C#old]"), 'A', 0, 10, 0, NONE);
        // An entry that is no longer kept: 40 others came behind it.
        Run forgotten = moved;
        for (int times = 0; times < 4; times++) {
            StringBuilder ten = new StringBuilder("x");
            for (int number = 0; number < 10; number++) {
                ten.append(";=n").append(10 * times + number).append(";z");
            }
            forgotten = forgotten.loaded('K', ten.toString()).removed('K');
            int kept = Math.min(40, 11 + 10 * times);
            CHECK.is("19 entries", forgotten.made().memory(-1, 0), kept);
            boolean there = times < 3;
            Run asked = forgotten.loaded('B', "=new;p").loaded('A', "[C#old]");
            repair(asked, 'A', 0, there ? 1 : 10, there ? 1 : 0, there ? 0 : NONE);
        }
    }

    /** The section has to have an anchor, and it is one of the candidate's own page. */
    private static void costOneBySections() {
        Run moved = new Run().loaded('C', "=old;p").removed('C');
        repair(moved.loaded('B', "=u;=v;p;=w;p").loaded('A', "[C#old]"), 'A', 0, 1, 1, 1);
        repair(moved.loaded('B', "=v;p").loaded('A', "=u;[C#old];=w;p"), 'A', 0, 1, 0, 1);
        // A heading that is included is no section of the page that includes it.
        repair(moved.loaded('B', "=v;p").loaded('A', "{B};[C#old]"), 'A', 0, 1, 1, 0);
        // A section whose heading was left out has no anchor.
        String half = "b;".repeat(49) + "b";
        repair(moved.loaded('D', half).loaded('B', "{D};{D};=v;p").loaded('A', "[C#old]"), 'A', 0, 10, 0, NONE);
        String less = "b;".repeat(48) + "b";
        repair(moved.loaded('D', less).loaded('B', "{D};{D};=v;p").loaded('A', "[C#old]"), 'A', 0, 1, 1, 0);
        // An empty section has the digest 7, and so has a line that was remembered.
        String seven = Digests.with(7);
        Run odd = new Run().loaded('C', "=old" + seven).removed('C').loaded('B', "=vvvvvv").loaded('A', "[C#old]");
        repair(odd, 'A', 0, 1, 1, 0);
    }

    /** "of the link as it is written (not of the places to which redirects lead)". */
    private static void placesAsTheyAreWritten() {
        Run run = new Run().loaded('A', "=abcd;[C#abce],[C]").loaded('L', "=zzzz");
        repair(run.redirected("C#abce>L#zzzy"), 'A', 0, 6, 0, 0);
        repair(run.redirected("C>K"), 'A', 1, 6, 0, NONE);
        repair(run.redirected("C>C#q"), 'A', 1, 6, 0, NONE);
        // Circular and dangling links, too.
        repair(run.redirected("C>D").redirected("D>C"), 'A', 1, 6, 0, NONE);
        repair(run.redirected("C#abce>L#q"), 'A', 0, 6, 0, 0);
    }

    /** "Its candidates are places in pages with a source": headings of the expansion, up to the 100th line. */
    private static void onlyHeadingsThatAreThere() {
        String half = "b;".repeat(48) + "b";
        Run run = new Run().loaded('B', half).loaded('C', "[A#yy1],[A#zz1]");
        repair(run.loaded('A', "{B};{B};p;=yy;=zz"), 'C', 0, 2, 0, 0);
        repair(run.loaded('A', "{B};{B};p;=yy;=zz"), 'C', 1, 6, 0, NONE);
        repair(run.loaded('A', "{B};{B};=yy;=zz"), 'C', 1, 2, 0, 1);
        repair(run.loaded('A', "{B};=yy").removed('A'), 'C', 0, 10, 1, NONE);
    }

    /** mend: NO_SUCH, then "NOT_POSSIBLE if the link is not broken". */
    private static void mendErrors() {
        Refusals refusals = new Refusals(CHECK, "21", withAllKinds().typed("p"));
        for (int[] pair : NO_LINKS) {
            refusals.refused("mend(" + pair[0] + ", " + pair[1] + ")", NO_SUCH, x -> x.mend(pair[0], pair[1]));
        }
        refusals.refused("mend of a DIRECT link", NOT_POSSIBLE, x -> x.mend(0, DIRECT));
        refusals.refused("mend of a REDIRECTED link", NOT_POSSIBLE, x -> x.mend(0, REDIRECTED));
    }

    /** "A link is broken if it is CIRCULAR, LOST or DANGLING." */
    private static void mendOfEachKind() {
        String[] due = {null, null, "=abc;[#abc],[C],[B],[L],[#abd]", "=abc;[#abc],[C],[D],[B],[#abd]",
            "=abc;[#abc],[C],[D],[L],[#abc]"};
        for (int kind = CIRCULAR; kind <= DANGLING; kind++) {
            LinkAuditor x = withAllKinds().made();
            CHECK.is("21 mend of " + kind, x.mend(0, kind), due[kind].length());
            CHECK.same("21 mend of " + kind, Check.source(x, 'A'), due[kind]);
            CHECK.is("21 it is good", x.link(0, kind, 0), DIRECT);
            CHECK.is("21 it is not broken any more", x.mend(0, kind), NOT_POSSIBLE);
            CHECK.is("24 a change", x.count(6), 6);
        }
    }

    private static void mended(Run run, char page, String due) {
        LinkAuditor x = run.made();
        String before = Check.source(x, page);
        CHECK.is("21 mend in " + before, x.mend(page - 'A', 0), due.length());
        CHECK.same("21 mend in " + before, Check.source(x, page), due);
    }

    /** "the letter is left out if there is an anchor and the page is that of the link". */
    private static void lettersThatAreLeftOut() {
        mended(new Run().loaded('A', "=ab;[#ac]"), 'A', "=ab;[#ab]");
        mended(new Run().loaded('A', "=ab;[A#ac]"), 'A', "=ab;[#ab]");
        mended(new Run().loaded('A', "=ab;[B#ab]"), 'A', "=ab;[#ab]");
        mended(new Run().loaded('A', "[B#ac]").loaded('B', "=ab"), 'A', "[B#ab]");
        mended(new Run().loaded('B', "[#ab]").loaded('L', "=ab"), 'B', "[L#ab]");
        // Without an anchor the letter stays, also that of its own page.
        mended(new Run().loaded('A', "[#ac]"), 'A', "[A]");
        mended(new Run().loaded('A', "[B]"), 'A', "[A]");
        mended(new Run().loaded('L', "[A#abcdefgh-99]"), 'L', "[L]");
        mended(new Run().loaded('L', "x,[A],y;z"), 'L', "x,[L],y;z");
    }

    /** A section of B that was C#o; its anchor has as many characters, up to 11. */
    private static Run withMoved(int length) {
        String name = "abcdefgh".substring(0, Math.min(length, 8));
        int before = length <= 8 ? 0 : length == 10 ? 9 : 10;
        return new Run().loaded('C', "=o;p").removed('C').loaded('B', ("=" + name + ";").repeat(before) + "=" + name + ";p");
    }

    /** "TOO_MANY if the source would be longer than 160." */
    private static void mendUpTo160() {
        // [C#o] becomes [B# and the anchor]: as long, and 1 to 10 characters longer.
        for (int length : new int[] {1, 2, 3, 7, 8, 10, 11}) {
            int more = length - 1;
            Run run = withMoved(length).loaded('A', filled("[C#o],m", 160 - more));
            CHECK.is("20 the cost", run.made().repair(0, 0, 0), 1);
            CHECK.is("21 up to 160", run.and("mend", x -> x.mend(0, 0)).answer(), 160);
            if (more > 0) {
                Run over = withMoved(length).loaded('A', filled("[C#o],m", 161 - more));
                Refusals refusals = new Refusals(CHECK, "21 up to 161 by " + more, over);
                refusals.refused("mend", TOO_MANY, x -> x.mend(0, 0));
                refusals.refused("mendAll", 0, LinkAuditor::mendAll);
            }
        }
        // A full source whose link becomes shorter, or as long as it was.
        LinkAuditor x = new Run().loaded('A', filled("[C#abcdefgh-99],m", 160)).made();
        CHECK.is("21 shorter", x.mend(0, 0), 148);
        CHECK.same("21 shorter", Check.source(x, 'A'), "[A]" + filled("[C#abcdefgh-99],m", 160).substring(15));
        x = new Run().loaded('A', filled("=ab;[#ac],m", 160)).made();
        CHECK.is("21 as long", x.mend(0, 0), 160);
        CHECK.same("21 as long", Check.source(x, 'A'), filled("=ab;[#ab],m", 160));
        // The link stands at the end of a full source.
        for (String end : new String[] {",[#ac]", ";[#ac]"}) {
            Run full = new Run().loaded('A', "=abc;" + "n,".repeat(74) + "n" + end);
            CHECK.is("21 160", full.made().character(0, -1), 160);
            new Refusals(CHECK, "21 at the end", full).refused("mend", TOO_MANY, y -> y.mend(0, 0));
            Run fits = new Run().loaded('A', "=abcd;" + "n,".repeat(73) + "n" + end);
            CHECK.is("21 159", fits.made().character(0, -1), 159);
            new Refusals(CHECK, "21 two more at the end", fits).refused("mend", TOO_MANY, y -> y.mend(0, 0));
        }
        x = new Run().loaded('A', "=abc;nn," + "n,".repeat(73) + "[#ac]").made();
        CHECK.is("21 159", x.character(0, -1), 159);
        CHECK.is("21 one more at the end", x.mend(0, 0), 160);
        CHECK.same("21 one more at the end", Check.source(x, 'A'), "=abc;nn," + "n,".repeat(73) + "[#abc]");
    }

    /** "Other links, sections and the memory are found anew by this source, but nothing is remembered." */
    private static void mendFindsAnew() {
        Run run = new Run().loaded('C', "=x;[A]").removed('C').loaded('A', "=a;[B],[#zzzz],[#a]");
        LinkAuditor x = run.loaded('A', "=a;[B];=b;[#zzzzzz],[#a],[B]").made();
        int entries = x.memory(-1, 0);
        CHECK.is("19 no section is [A]", x.memory(0, 3), 0);
        CHECK.is("21 mend", x.mend(0, 0), 28);
        CHECK.is("11 the digest", x.section(0, 0, 0), Digests.of(";[A]"));
        CHECK.is("19 one section is [A]", x.memory(0, 3), 1);
        CHECK.is("21 the next link", x.mend(0, 1), 22);
        CHECK.same("21 the source", Check.source(x, 'A'), "=a;[A];=b;[A],[#a],[B]");
        CHECK.is("16 the links behind", x.link(0, 2, 5), 0);
        CHECK.is("16 the links behind", x.link(0, 3, 0), LOST);
        CHECK.is("8 links", x.about(0, 4), 4);
        CHECK.is("19 nothing is remembered", x.memory(-1, 0), entries);
    }

    /** "Returns how many links were mended": none without pages, without links, and with good ones only. */
    private static void mendAllOfNothing() {
        Run good = new Run().loaded('A', "[A],[#a];=a").loaded('L', "[A#a],[K]").redirected("K>L");
        for (Run run : new Run[] {new Run(), new Run().loaded('A', "a;=b"), good.typed("pad")}) {
            new Refusals(CHECK, "22", run).refused("mendAll", 0, LinkAuditor::mendAll);
        }
        Run most = new Run();
        for (char page = 'A'; page <= 'L'; page++) {
            most = most.loaded(page, "[#a],".repeat(31) + "[#a]");
        }
        LinkAuditor x = most.made();
        CHECK.is("22 all of 384", x.mendAll(), 384);
        CHECK.is("22 none is left", x.count(5), 0);
        CHECK.is("22 one change", x.undo(), 9);
        CHECK.is("22 all are broken again", x.count(5), 384);
    }

    /** "a link whose page would become longer than 160 is left as it is". */
    private static void mendAllUpTo160() {
        // Each [#ab] grows by one: as many are mended as there is room for, and a shorter one makes room behind it.
        for (int room = 0; room <= 4; room++) {
            String begin = "=abc;[#ab],[#ab],[#ab],m";
            Run run = new Run().loaded('A', filled(begin, 160 - room));
            int due = Math.min(3, room);
            CHECK.is("22 with room for " + room, run.and("mendAll", LinkAuditor::mendAll).answer(), due);
            LinkAuditor x = run.and("mendAll", LinkAuditor::mendAll).made();
            CHECK.is("22 the length", x.character(0, -1), 160 - room + due);
            CHECK.is("22 left as they are", x.count(5), 3 - due);
            CHECK.is("24 a change only if one was mended", x.count(6), due == 0 ? 1 : 2);
            for (int link = 0; link < 3; link++) {
                CHECK.is("22 in their order", x.link(0, link, 0), link < due ? DIRECT : DANGLING);
            }
        }
        LinkAuditor x = new Run().loaded('A', filled("=abc;[#ab],[#abcd],[#ab],[#ab],m", 160)).made();
        CHECK.is("22 the second makes room for the third", x.mendAll(), 2);
        CHECK.same("22 the source", Check.source(x, 'A'), filled("=abc;[#ab],[#abc],[#abc],[#ab],m", 160));
        CHECK.is("22 no room is left", x.mendAll(), 0);
        // A page without room does not keep the others from being mended.
        x = new Run().loaded('A', filled("=abc;[#ab],m", 160)).loaded('B', "[#q]").loaded('L', "=abc;[#ab]").made();
        CHECK.is("22 the other pages", x.mendAll(), 2);
        CHECK.same("22 B", Check.source(x, 'B'), "[B]");
        CHECK.same("22 L", Check.source(x, 'L'), "=abc;[#abc]");
        CHECK.same("22 A", Check.source(x, 'A'), filled("=abc;[#ab],m", 160));
    }

    /** "the pages in ascending order, in each page its links in ascending order, each one by the repair that it has then". */
    private static void mendAllInOrder() {
        Run moved = new Run().loaded('C', "=x;[A]").removed('C');
        // Mending the link of A makes it the section that was C#x, in time for those behind it.
        LinkAuditor x = moved.loaded('A', "=mmmm;[B]").loaded('L', "[C#x]").made();
        CHECK.is("22 a page behind", x.mendAll(), 2);
        CHECK.same("22 a page behind", Check.source(x, 'L'), "[A#mmmm]");
        x = moved.loaded('A', "[C#x]").loaded('L', "=mmmm;[B]").made();
        CHECK.is("22 a page before", x.mendAll(), 2);
        CHECK.same("22 a page before", Check.source(x, 'A'), "[A]");
        x = moved.loaded('A', "=mmmm;[B];=nnnn;[C#x]").made();
        CHECK.is("22 a link behind", x.mendAll(), 2);
        CHECK.same("22 a link behind", Check.source(x, 'A'), "=mmmm;[A];=nnnn;[#mmmm]");
        x = moved.loaded('A', "=nnnn;[C#x];=mmmm;[B]").made();
        CHECK.is("22 a link before", x.mendAll(), 2);
        CHECK.same("22 a link before", Check.source(x, 'A'), "=nnnn;[A];=mmmm;[A]");
    }

    /** straighten: "Returns as mend(), but NOT_POSSIBLE if the link is not REDIRECTED." */
    private static void straightenErrors() {
        Run run = withAllKinds().typed("p");
        Refusals refusals = new Refusals(CHECK, "23", run);
        for (int[] pair : NO_LINKS) {
            refusals.refused("straighten(" + pair[0] + ", " + pair[1] + ")", NO_SUCH, x -> x.straighten(pair[0], pair[1]));
        }
        for (int kind : new int[] {DIRECT, CIRCULAR, LOST, DANGLING}) {
            refusals.refused("straighten of " + kind, NOT_POSSIBLE, x -> x.straighten(0, kind));
        }
        LinkAuditor x = run.made();
        CHECK.is("23 the REDIRECTED one", x.straighten(0, REDIRECTED), 30);
        CHECK.same("23 the source", Check.source(x, 'A'), "=abc;[#abc],[B],[D],[L],[#abd]");
        CHECK.is("23 it is DIRECT now", x.straighten(0, REDIRECTED), NOT_POSSIBLE);
        CHECK.is("23 nothing is remembered", x.memory(-1, 0), 0);
    }

    /** The same 160 characters, by the shortest target and the longest one. */
    private static void straightenUpTo160() {
        String eleven = "=abcdefgh;".repeat(10) + "=abcdefgh";
        Run run = new Run().loaded('B', eleven).redirected("C>B#abcdefgh-10").redirected("D#abcdefgh-10>B").redirected("E>A#a");
        Run fits = run.loaded('A', filled("[C],m", 148));
        CHECK.is("23 up to 160", fits.and("straighten", x -> x.straighten(0, 0)).answer(), 160);
        LinkAuditor x = fits.made();
        x.straighten(0, 0);
        CHECK.same("23 the source", Check.source(x, 'A'), "[B#abcdefgh-10]" + filled("[C],m", 148).substring(3));
        Run over = run.loaded('A', filled("[C],m", 149));
        new Refusals(CHECK, "23 up to 161", over).refused("straighten", TOO_MANY, y -> y.straighten(0, 0));
        x = run.loaded('A', filled("[D#abcdefgh-10],m", 160)).made();
        CHECK.is("23 shorter", x.straighten(0, 0), 148);
        // Within its page the letter is left out; with an anchor the target is one longer than before.
        Run tooLong = run.loaded('A', filled("=a;[E],m", 160));
        new Refusals(CHECK, "23 too long by one", tooLong).refused("straighten", TOO_MANY, y -> y.straighten(0, 0));
        x = run.loaded('A', filled("=a;[E],m", 159)).made();
        CHECK.is("23 not too long", x.straighten(0, 0), 160);
        CHECK.same("23 the source", Check.source(x, 'A'), filled("=a;[#a],m", 160));
        // NOT_POSSIBLE comes before TOO_MANY, NO_SUCH before both.
        Refusals lost = new Refusals(CHECK, "23 a lost link", run.loaded('A', filled("[K],m", 160)));
        lost.refused("straighten(0, 0)", NOT_POSSIBLE, y -> y.straighten(0, 0));
        lost.refused("straighten(0, 1)", NO_SUCH, y -> y.straighten(0, 1));
    }
}
