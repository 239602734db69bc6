/** Promises 13 to 18: redirect, unredirect, redirection, link, tally, reach. */
public final class LinksTest {
    private static final Check CHECK = new Check();
    private static final int NO_SUCH = -1, BAD_VALUE = -2, BAD_TEXT = -3, TOO_MANY = -4, NOT_POSSIBLE = -5, NONE = -6;
    private static final int DIRECT = 0, REDIRECTED = 1, CIRCULAR = 2, LOST = 3, DANGLING = 4;
    private static final int[] ODD = {-1, -2, 99, Integer.MAX_VALUE, Integer.MIN_VALUE};

    public static void main(String[] args) {
        redirect();
        redirectLimit();
        unredirect();
        redirection();
        redirectionUses();
        directLinks();
        redirectedLinks();
        wholePages();
        circularLinks();
        longWay();
        linkErrors();
        tally();
        reach();
        reachOfAll();
        CHECK.end("LinksTest");
    }

    private static void redirect() {
        LinkAuditor x = new LinkAuditor();
        CHECK.is("13 the empty pad", x.redirect(), BAD_TEXT);
        CHECK.is("13 a page", Check.redirect(x, "a"), BAD_TEXT);
        CHECK.is("13 the pad stays", x.count(1), 1);
        CHECK.is("13 first", Check.redirect(x, "A#a>B"), 1);
        CHECK.is("13 the pad is empty", x.count(1), 0);
        CHECK.is("13 the same place", Check.redirect(x, "A#a>C"), NOT_POSSIBLE);
        CHECK.is("13 the pad stays", x.count(1), 5);
        CHECK.is("13 the same redirect", Check.redirect(x, "A#a>B"), NOT_POSSIBLE);
        CHECK.is("13 the page as a whole", Check.redirect(x, "A>C"), 2);
        CHECK.is("13 another anchor", Check.redirect(x, "A#a-1>C"), 3);
        CHECK.is("13 another anchor", Check.redirect(x, "A#a1>C"), 4);
        CHECK.is("13 another anchor", Check.redirect(x, "A#a-10>C"), 5);
        CHECK.is("13 to itself", Check.redirect(x, "B>B"), NOT_POSSIBLE);
        CHECK.is("13 to itself", Check.redirect(x, "B#x-2>B#x-2"), NOT_POSSIBLE);
        CHECK.is("13 within a page", Check.redirect(x, "B>B#x"), 6);
        CHECK.is("13 within a page", Check.redirect(x, "B#x>B"), 7);
        CHECK.is("13 within a page", Check.redirect(x, "B#x-1>B#x-2"), 8);
        CHECK.is("13 changes", x.count(6), 8);
        CHECK.is("13 redirects", x.count(2), 8);
    }

    private static void redirectLimit() {
        LinkAuditor x = new LinkAuditor();
        for (int page = 0; page < 12; page++) {
            CHECK.is("13 redirect", Check.redirect(x, (char) ('A' + page) + "#a>A"), page + 1);
        }
        CHECK.is("13 the 13th", Check.redirect(x, "A>B"), TOO_MANY);
        CHECK.is("13 the pad stays", x.count(1), 3);
        CHECK.is("13 the same place comes first", Check.redirect(x, "A#a>C"), NOT_POSSIBLE);
        CHECK.is("13 itself comes first", Check.redirect(x, "A>A"), NOT_POSSIBLE);
        CHECK.is("13 the fault comes first", Check.redirect(x, "A>"), BAD_TEXT);
        CHECK.is("13 redirects", x.count(2), 12);
        CHECK.is("13 one is removed", x.unredirect(3), 11);
        CHECK.is("13 its place is free", Check.redirect(x, "D#a>A"), 12);
    }

    private static void unredirect() {
        LinkAuditor x = new LinkAuditor();
        CHECK.is("14 none", x.unredirect(0), NO_SUCH);
        Check.redirect(x, "A>B");
        Check.redirect(x, "B#b>C#c");
        Check.redirect(x, "C>D#d");
        for (int odd : ODD) {
            CHECK.is("14 unredirect(" + odd + ")", x.unredirect(odd), NO_SUCH);
        }
        CHECK.is("14 unredirect(3)", x.unredirect(3), NO_SUCH);
        x.put('p');
        CHECK.is("14 unredirect", x.unredirect(0), 2);
        CHECK.is("14 the pad stays", x.count(1), 1);
        redirections(x, 0, 1, 1, 2, 1);
        redirections(x, 1, 2, 0, 3, 1);
        CHECK.is("14 the last one", x.unredirect(1), 1);
        redirections(x, 0, 1, 1, 2, 1);
        CHECK.is("14 no more", x.redirection(1, 0), NO_SUCH);
        CHECK.is("14 unredirect", x.unredirect(0), 0);
        CHECK.is("14 changes", x.count(6), 6);
    }

    private static void redirections(LinkAuditor x, int redirect, int... due) {
        for (int what = 0; what < due.length; what++) {
            CHECK.is("15 redirection(" + redirect + ", " + what + ")", x.redirection(redirect, what), due[what]);
        }
    }

    private static void redirection() {
        LinkAuditor x = new LinkAuditor();
        Check.redirect(x, "L>A");
        Check.redirect(x, "B#b-1>C");
        Check.redirect(x, "B>L#c");
        redirections(x, 0, 11, 0, 0, 0, 0);
        redirections(x, 1, 1, 1, 2, 0, 0);
        redirections(x, 2, 1, 0, 11, 1, 0);
        for (int odd : ODD) {
            CHECK.is("15 redirection(" + odd + ", 99)", x.redirection(odd, 99), NO_SUCH);
            CHECK.is("15 redirection(0, " + odd + ")", x.redirection(0, odd), BAD_VALUE);
        }
        CHECK.is("15 redirection(3, 0)", x.redirection(3, 0), NO_SUCH);
        CHECK.is("15 redirection(0, 5)", x.redirection(0, 5), BAD_VALUE);
    }

    private static void redirectionUses() {
        LinkAuditor x = new LinkAuditor();
        Check.load(x, 'A', "[B#x],[B]");
        Check.redirect(x, "B>C");
        Check.redirect(x, "C#x>B#y");
        links(x, 'A', 0, LOST, 1, 1, 3, 2, NONE);
        links(x, 'A', 1, LOST, 1, 0, 1, 2, NONE);
        CHECK.is("15 followed twice by one link", x.redirection(0, 4), 3);
        CHECK.is("15 followed once", x.redirection(1, 4), 1);
        Check.load(x, 'D', "[C#x];[C#x]");
        CHECK.is("15 from another page", x.redirection(0, 4), 5);
        CHECK.is("15 from another page", x.redirection(1, 4), 3);
        x.remove(0);
        CHECK.is("15 the links are gone", x.redirection(0, 4), 2);
    }

    private static void links(LinkAuditor x, char page, int link, int... due) {
        for (int what = 0; what < due.length; what++) {
            String call = "16 link(" + page + ", " + link + ", " + what + ")";
            CHECK.is(call, x.link(page - 'A', link, what), due[what]);
        }
    }

    private static void directLinks() {
        LinkAuditor x = new LinkAuditor();
        Check.load(x, 'A', "[A],[#b],n,[B#b];=b;[B],[B#a-1],[#c],[A#b-1]");
        links(x, 'A', 0, DIRECT, 0, 0, 0, 0, NONE);
        links(x, 'A', 1, DIRECT, 0, 1, 0, 0, 0);
        links(x, 'A', 2, LOST, 1, 1, 0, 1, NONE);
        links(x, 'A', 3, LOST, 1, 0, 0, 1, NONE);
        links(x, 'A', 4, LOST, 1, 1, 0, 1, NONE);
        links(x, 'A', 5, DANGLING, 0, 1, 0, 0, NONE);
        links(x, 'A', 6, DANGLING, 0, 1, 0, 0, NONE);
        Check.load(x, 'B', "=a;{A};=a");
        links(x, 'A', 2, DIRECT, 1, 1, 0, 1, 1);
        links(x, 'A', 3, DIRECT, 1, 0, 0, 1, NONE);
        links(x, 'A', 4, DIRECT, 1, 1, 0, 1, 2);
        Check.redirect(x, "B#b>A#b");
        Check.redirect(x, "B>A");
        links(x, 'A', 2, DIRECT, 1, 1, 0, 1, 1);
        links(x, 'A', 3, DIRECT, 1, 0, 0, 1, NONE);
        CHECK.is("16 a link of an included page", x.link(1, 0, 0), NO_SUCH);
        Check.load(x, 'C', "=s;".repeat(21) + "[#s-9],[#s-10],[#s-19],[#s-20],[#s-21]");
        int[] headings = {9, 10, 19, 20, NONE};
        for (int link = 0; link < 5; link++) {
            CHECK.is("16 a number of two digits", x.link(2, link, 5), headings[link]);
        }
    }

    private static void redirectedLinks() {
        LinkAuditor x = new LinkAuditor();
        Check.load(x, 'A', "=a;=b;[#c],[C],[C#a],[A#d]");
        Check.redirect(x, "A#c>A#b");
        Check.redirect(x, "C>A");
        Check.redirect(x, "C#a>D#q");
        Check.redirect(x, "D#q>A#a");
        links(x, 'A', 0, REDIRECTED, 0, 1, 1, 0, 1);
        links(x, 'A', 1, REDIRECTED, 2, 0, 1, 0, NONE);
        links(x, 'A', 2, REDIRECTED, 2, 1, 2, 0, 0);
        links(x, 'A', 3, DANGLING, 0, 1, 0, 0, NONE);
        Check.redirect(x, "A#d>E");
        links(x, 'A', 3, LOST, 0, 1, 1, 4, NONE);
        Check.redirect(x, "E>A#zz");
        links(x, 'A', 3, DANGLING, 0, 1, 2, 0, NONE);
    }

    /** A redirect of a whole page takes the anchor along, but only from a page without a source. */
    private static void wholePages() {
        LinkAuditor x = new LinkAuditor();
        Check.load(x, 'A', "=a;=b;[B#b],[C#b],[A#zz],[D#a]");
        Check.redirect(x, "B>A");
        Check.redirect(x, "C>A#a");
        Check.redirect(x, "A>B");
        Check.redirect(x, "D>B");
        links(x, 'A', 0, REDIRECTED, 1, 1, 1, 0, 1);
        links(x, 'A', 1, REDIRECTED, 2, 1, 1, 0, 0);
        links(x, 'A', 2, DANGLING, 0, 1, 0, 0, NONE);
        links(x, 'A', 3, REDIRECTED, 3, 1, 2, 0, 0);
        Check.load(x, 'B', "q");
        links(x, 'A', 0, DANGLING, 1, 1, 0, 1, NONE);
        Check.redirect(x, "B#b>C");
        links(x, 'A', 0, REDIRECTED, 1, 1, 2, 0, 0);
    }

    private static void circularLinks() {
        LinkAuditor x = new LinkAuditor();
        Check.load(x, 'A', "[B],[D#x],[#y],[E]");
        Check.redirect(x, "B>C");
        Check.redirect(x, "C>B");
        links(x, 'A', 0, CIRCULAR, 1, 0, 2, 1, NONE);
        Check.redirect(x, "D>B");
        links(x, 'A', 1, CIRCULAR, 3, 1, 3, 1, NONE);
        Check.redirect(x, "A#y>A#z");
        Check.redirect(x, "A#z>A#y");
        links(x, 'A', 2, CIRCULAR, 0, 1, 2, 0, NONE);
        Check.redirect(x, "E>C#k");
        links(x, 'A', 3, CIRCULAR, 4, 0, 3, 2, NONE);
        CHECK.is("16 circular ones are tallied", x.tally(CIRCULAR), 4);
        CHECK.is("16 circular ones are broken", x.count(5), 4);
        CHECK.is("15 followed by circular links", x.redirection(0, 4), 3);
    }

    /** Six redirects of whole pages in a ring, which six redirects of places leave and enter again. */
    private static void longWay() {
        LinkAuditor x = new LinkAuditor();
        Check.load(x, 'L', "[A#a]");
        for (char page = 'A'; page < 'F'; page++) {
            Check.redirect(x, page + ">" + (char) (page + 1));
        }
        for (char name = 'a'; name < 'h'; name++) {
            Check.redirect(x, "F#" + name + ">A#" + (char) (name + 1));
        }
        CHECK.is("13 redirects", x.count(2), 12);
        links(x, 'L', 0, LOST, 0, 1, 47, 5, NONE);
        CHECK.is("15 the first one", x.redirection(0, 4), 8);
        x.unredirect(11);
        Check.redirect(x, "F#g>A#a");
        links(x, 'L', 0, CIRCULAR, 0, 1, 42, 0, NONE);
    }

    private static void linkErrors() {
        LinkAuditor x = new LinkAuditor();
        CHECK.is("16 without a source", x.link(0, 0, 0), NO_SUCH);
        Check.load(x, 'A', "[B]");
        for (int odd : ODD) {
            CHECK.is("16 link(" + odd + ", 0, 0)", x.link(odd, 0, 0), NO_SUCH);
            CHECK.is("16 link(0, " + odd + ", 99)", x.link(0, odd, 99), NO_SUCH);
            CHECK.is("16 link(0, 0, " + odd + ")", x.link(0, 0, odd), BAD_VALUE);
        }
        CHECK.is("16 link(12, 0, 0)", x.link(12, 0, 0), NO_SUCH);
        CHECK.is("16 link(0, 1, 0)", x.link(0, 1, 0), NO_SUCH);
        CHECK.is("16 link(0, 0, 6)", x.link(0, 0, 6), BAD_VALUE);
    }

    private static void tally() {
        LinkAuditor x = new LinkAuditor();
        Check.load(x, 'A', "[A],[B],[C],[D],[#q],[A]");
        Check.load(x, 'L', "[E],[#a],[C#v]");
        Check.redirect(x, "B>A");
        Check.redirect(x, "C>D");
        Check.redirect(x, "D>C");
        int[] due = {2, 1, 3, 1, 2};
        for (int what = 0; what < 5; what++) {
            CHECK.is("17 tally(" + what + ")", x.tally(what), due[what]);
        }
        for (int odd : ODD) {
            CHECK.is("17 tally(" + odd + ")", x.tally(odd), BAD_VALUE);
        }
        CHECK.is("17 tally(5)", x.tally(5), BAD_VALUE);
        CHECK.is("17 all links", x.count(4), 9);
        CHECK.is("17 broken links", x.count(5), 6);
    }

    private static void reach() {
        LinkAuditor x = new LinkAuditor();
        Check.load(x, 'A', "[B],[C#x],[H]");
        Check.load(x, 'B', "{D};{E}");
        Check.load(x, 'C', "q");
        Check.load(x, 'D', "[F]");
        Check.load(x, 'F', "[A]");
        CHECK.is("18 from A", x.reach(0, 0), 1 | 2 | 8 | 16 | 32);
        CHECK.is("18 not from A", x.reach(0, 1), 4);
        CHECK.is("18 from C", x.reach(2, 0), 4);
        CHECK.is("18 not from C", x.reach(2, 1), 1 | 2 | 8 | 32);
        CHECK.is("18 from E, which has no source", x.reach(4, 0), 16);
        CHECK.is("18 not from E", x.reach(4, 1), 1 | 2 | 4 | 8 | 32);
        CHECK.is("18 from L", x.reach(11, 0), 1 << 11);
        Check.redirect(x, "H>C");
        CHECK.is("18 the end of a redirected link", x.reach(0, 0), 1 | 2 | 4 | 8 | 16 | 32);
        Check.load(x, 'B', "q");
        CHECK.is("18 the includes are gone", x.reach(0, 0), 1 | 2 | 4);
        CHECK.is("18 not from A", x.reach(0, 1), 8 | 32);
        for (int odd : ODD) {
            CHECK.is("18 reach(" + odd + ", 99)", x.reach(odd, 99), NO_SUCH);
            CHECK.is("18 reach(0, " + odd + ")", x.reach(0, odd), BAD_VALUE);
        }
        CHECK.is("18 reach(12, 0)", x.reach(12, 0), NO_SUCH);
        CHECK.is("18 reach(0, 2)", x.reach(0, 2), BAD_VALUE);
    }

    /** A chain against the order of the pages needs as many rounds as there are pages. */
    private static void reachOfAll() {
        LinkAuditor x = new LinkAuditor();
        for (char page = 'B'; page <= 'L'; page++) {
            char next = (char) (page - 1);
            Check.load(x, page, page % 2 == 0 ? "[" + next + "]" : "{" + next + "}");
        }
        Check.load(x, 'A', "a");
        CHECK.is("18 all pages", x.reach(11, 0), 4095);
        CHECK.is("18 all pages", x.reach(11, 1), 0);
        x.remove(0);
        CHECK.is("18 a link to a page without a source", x.reach(11, 0), 4094);
        CHECK.is("18 from F on", x.reach(5, 1), 0b111111000000);
    }
}
