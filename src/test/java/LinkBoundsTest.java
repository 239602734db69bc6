/** The boundaries of redirects and links: promises 13 to 18, and how a link is resolved. */
public final class LinkBoundsTest {
    private static final Check CHECK = new Check();
    private static final int NO_SUCH = -1, BAD_VALUE = -2, BAD_TEXT = -3, TOO_MANY = -4, NOT_POSSIBLE = -5, NONE = -6;
    private static final int DIRECT = 0, REDIRECTED = 1, CIRCULAR = 2, LOST = 3, DANGLING = 4;
    private static final int[] FAR = {-1, -2, 12, 13, 32, 256, Integer.MIN_VALUE, Integer.MAX_VALUE};

    public static void main(String[] args) {
        twelveRedirects();
        thirteenthRedirect();
        redirectsFromTheSamePlace();
        redirectsToTheirOwnPlace();
        redirectsWithAFault();
        numbersBehindDecrease();
        unredirectErrors();
        redirectionErrors();
        howOftenItIsFollowed();
        linkErrors();
        targetsWithoutLetterOrAnchor();
        placesThatHaveBeenHere();
        goodLinks();
        redirectsOfThisPlace();
        redirectsOfTheWholePage();
        lostOrDangling();
        longestWays();
        tallies();
        reachErrors();
        reachedPages();
        reachOverAllPages();
        CHECK.end("LinkBoundsTest");
    }

    private static void links(LinkAuditor x, char page, int link, int... due) {
        for (int what = 0; what < due.length; what++) {
            String call = "16 link(" + page + ", " + link + ", " + what + ")";
            CHECK.is(call, x.link(page - 'A', link, what), due[what]);
        }
    }

    private static void redirections(LinkAuditor x, int redirect, int... due) {
        for (int what = 0; what < due.length; what++) {
            CHECK.is("15 redirection(" + redirect + ", " + what + ")", x.redirection(redirect, what), due[what]);
        }
    }

    /** Redirects from A#n0, A#n1 and so on to B. */
    private static Run withRedirects(int number) {
        Run run = new Run().loaded('A', "=a;[#n0],[#n10],[#n11],[#n12]").loaded('B', "=b;[A#n1]");
        for (int redirect = 0; redirect < number; redirect++) {
            run = run.redirected("A#n" + redirect + ">B");
        }
        return run;
    }

    /** "There are up to 12 redirects, numbered in the order in which they were added". */
    private static void twelveRedirects() {
        LinkAuditor x = new LinkAuditor();
        for (int page = 0; page < 12; page++) {
            String text = (char) ('L' - page) + (page % 2 == 0 ? ">" : "#a>") + (char) ('A' + (page + 5) % 12);
            CHECK.is("13 " + text, Check.redirect(x, text), page + 1);
            CHECK.is("13 the pad is empty", x.count(1), 0);
            CHECK.is("25 the number", x.count(2), page + 1);
        }
        for (int page = 0; page < 12; page++) {
            redirections(x, page, 11 - page, page % 2, (page + 5) % 12, 0, 0);
        }
        CHECK.is("15 no 13th", x.redirection(12, 0), NO_SUCH);
        CHECK.is("24 ten can be undone", x.count(6), 10);
    }

    /** "TOO_MANY if there are 12 redirects", behind BAD_TEXT and NOT_POSSIBLE. */
    private static void thirteenthRedirect() {
        CHECK.is("13 the 12th", withRedirects(11).redirected("A#n12>B").answer(), 12);
        Run full = withRedirects(12);
        CHECK.is("13 twelve", full.made().count(2), 12);
        String[] pads = {"A#n12>B", "L>K", "A>B", "", "A>", "a", "A#n0>C", "A#n11>C", "A#n5>B", "C>C", "A#q>A#q"};
        int[] due = {TOO_MANY, TOO_MANY, TOO_MANY, BAD_TEXT, BAD_TEXT, BAD_TEXT, NOT_POSSIBLE, NOT_POSSIBLE, NOT_POSSIBLE,
            NOT_POSSIBLE, NOT_POSSIBLE};
        for (int index = 0; index < pads.length; index++) {
            Refusals refusals = new Refusals(CHECK, "13 twelve, pad '" + pads[index] + "'", full.typed(pads[index]));
            refusals.refused("redirect", due[index], LinkAuditor::redirect);
        }
        LinkAuditor x = full.typed("A#n12>B").made();
        CHECK.is("13 refused", x.redirect(), TOO_MANY);
        CHECK.is("14 one goes", x.unredirect(0), 11);
        CHECK.is("13 the pad is as it was", x.redirect(), 12);
        links(x, 'A', 0, DANGLING, 0, 1, 0, 0, NONE);
        links(x, 'A', 3, REDIRECTED, 0, 1, 1, 1, NONE);
    }

    /** "Two redirects cannot lead from the same place"; a place is a letter, with or without an anchor. */
    private static void redirectsFromTheSamePlace() {
        String[] places = {"A", "A#a", "A#a-1", "A#a-10", "A#a1", "A#a10", "A#b", "A#abcdefgh", "A#abcdefgh-1", "B", "B#a",
            "L#a"};
        Run run = new Run().loaded('K', "[A],[A#a],[A#a-1],[L#a]");
        for (int index = 0; index < places.length; index++) {
            run = run.redirected(places[index] + ">K");
            CHECK.is("13 from " + places[index], run.answer(), index + 1);
        }
        // One is undone, so that TOO_MANY is not what refuses.
        Run eleven = run.undone(1);
        for (int index = 0; index < places.length - 1; index++) {
            for (String to : new String[] {">K", ">C#c-3"}) {
                Refusals refusals = new Refusals(CHECK, "13 pad " + places[index] + to, eleven.typed(places[index] + to));
                refusals.refused("redirect", NOT_POSSIBLE, LinkAuditor::redirect);
            }
        }
        Run free = eleven.and("unredirect", x -> x.unredirect(1));
        CHECK.is("13 the place is free again", free.redirected("A#a>C").answer(), 11);
        CHECK.is("13 the last one", eleven.redirected("L#a>K").answer(), 12);
    }

    /** "a redirect cannot lead to the place from which it leads", but to any other one. */
    private static void redirectsToTheirOwnPlace() {
        String[] refused = {"A>A", "L>L", "A#a>A#a", "A#a-1>A#a-1", "L#abcdefgh-99>L#abcdefgh-99"};
        for (String pad : refused) {
            Refusals refusals = new Refusals(CHECK, "13 pad " + pad, new Run().loaded('A', "=a;[L]").typed(pad));
            refusals.refused("redirect", NOT_POSSIBLE, LinkAuditor::redirect);
        }
        String[] taken = {"A>B", "A>A#a", "A#a>A", "A#a>B#a", "A#a>A#a-1", "A#a-1>A#a", "A#a-1>A#a-10", "A#a-1>A#a1",
            "L#abcdefgh-99>L#abcdefgh-98", "A#a>A#aa"};
        for (String pad : taken) {
            CHECK.is("13 " + pad, new Run().redirected(pad).answer(), 1);
        }
    }

    /** "BAD_TEXT if the pad has a fault as a redirect". */
    private static void redirectsWithAFault() {
        Run run = new Run().loaded('A', "=a;[B],[C#c]").redirected("B>A");
        for (String pad : new String[] {"", "A", "A>", ">A", "M>A", "A>M", "A>B;", "A#a-0>B", "A#abcdefghi>B", "a", "B>", "#a>B",
            "A>#a", "A>B#a-100", "a".repeat(160)}) {
            Refusals refusals = new Refusals(CHECK, "13 pad '" + pad + "'", run.typed(pad));
            refusals.refused("redirect", BAD_TEXT, LinkAuditor::redirect);
        }
        LinkAuditor x = run.typed("C").made();
        CHECK.is("13 refused", x.redirect(), BAD_TEXT);
        x.put(Check.packed(">A"));
        CHECK.is("13 the pad was as it was", x.redirect(), 2);
        links(x, 'A', 1, DANGLING, 2, 1, 1, 0, NONE);
    }

    /** "if one is removed, the numbers of those behind it decrease by 1". */
    private static void numbersBehindDecrease() {
        for (int removed = 0; removed < 12; removed++) {
            Run run = new Run();
            for (int page = 0; page < 12; page++) {
                run = run.redirected((char) ('A' + page) + ">" + (char) ('A' + (page + 1) % 12) + (page % 3 == 0 ? "#a" : ""));
            }
            int gone = removed;
            run = run.and("unredirect", x -> x.unredirect(gone));
            CHECK.is("14 unredirect(" + removed + ")", run.answer(), 11);
            LinkAuditor x = run.made();
            for (int redirect = 0; redirect < 11; redirect++) {
                int page = redirect < removed ? redirect : redirect + 1;
                redirections(x, redirect, page, 0, (page + 1) % 12, page % 3 == 0 ? 1 : 0, 0);
            }
            CHECK.is("15 none behind", x.redirection(11, 0), NO_SUCH);
            CHECK.is("14 none behind", x.unredirect(11), NO_SUCH);
        }
    }

    /** unredirect: "NO_SUCH if there is no such redirect". */
    private static void unredirectErrors() {
        for (int number : new int[] {0, 1, 12}) {
            Run run = withRedirects(number).typed("A>B");
            Refusals refusals = new Refusals(CHECK, "14 of " + number, run);
            refusals.refused("unredirect(" + number + ")", NO_SUCH, x -> x.unredirect(number));
            for (int far : FAR) {
                refusals.refused("unredirect(" + far + ")", NO_SUCH, x -> x.unredirect(far));
            }
        }
        LinkAuditor x = withRedirects(12).typed("pad").made();
        for (int left = 11; left >= 0; left--) {
            CHECK.is("14 unredirect(" + left + ")", x.unredirect(left), left);
        }
        CHECK.is("14 none is left", x.unredirect(0), NO_SUCH);
        CHECK.is("14 the pad stays", x.count(1), 3);
    }

    /** redirection: NO_SUCH before BAD_VALUE; what from 0 to 4. */
    private static void redirectionErrors() {
        for (int number : new int[] {0, 1, 12}) {
            Refusals refusals = new Refusals(CHECK, "15 of " + number, withRedirects(number));
            for (int what : new int[] {-1, 0, 4, 5}) {
                refusals.refused("redirection(-1, " + what + ")", NO_SUCH, x -> x.redirection(-1, what));
                refusals.refused("redirection(n, " + what + ")", NO_SUCH, x -> x.redirection(number, what));
                refusals.refused("redirection(12, " + what + ")", NO_SUCH, x -> x.redirection(12, what));
            }
            for (int far : FAR) {
                refusals.refused("redirection(" + far + ", 0)", NO_SUCH, x -> x.redirection(far, 0));
            }
        }
        Refusals refusals = new Refusals(CHECK, "15", withRedirects(12));
        for (int what : new int[] {-1, 5, 6, Integer.MIN_VALUE, Integer.MAX_VALUE}) {
            refusals.refused("redirection(0, " + what + ")", BAD_VALUE, x -> x.redirection(0, what));
            refusals.refused("redirection(11, " + what + ")", BAD_VALUE, x -> x.redirection(11, what));
        }
        redirections(withRedirects(12).made(), 11, 0, 1, 1, 0, 1);
    }

    /** "how often it is followed by all links of all pages together": none, once, and several times by one link. */
    private static void howOftenItIsFollowed() {
        Run run = new Run().redirected("B>C").redirected("C#x>B#y").redirected("C>B#x");
        LinkAuditor x = run.made();
        for (int redirect = 0; redirect < 3; redirect++) {
            CHECK.is("15 without links", x.redirection(redirect, 4), 0);
        }
        // B#x, C#x, B#y, C#y, B#x: the redirect of C leads back to where it has been.
        x = run.loaded('A', "[B#x]").made();
        links(x, 'A', 0, CIRCULAR, 1, 1, 4, 1, NONE);
        int[] due = {2, 1, 1};
        for (int redirect = 0; redirect < 3; redirect++) {
            CHECK.is("15 by one link", x.redirection(redirect, 4), due[redirect]);
        }
        Run most = new Run().redirected("B>L");
        for (char page : "ACDE".toCharArray()) {
            most = most.loaded(page, "[B],".repeat(39) + "[B]");
        }
        CHECK.is("15 by 160 links", most.made().redirection(0, 4), 160);
        CHECK.is("15 a direct link follows none", most.loaded('B', "b").made().redirection(0, 4), 0);
    }

    /** link: NO_SUCH "if there is no such page or link" before BAD_VALUE; what from 0 to 5. */
    private static void linkErrors() {
        Run run = new Run().loaded('A', "[A],[B#b]").loaded('B', "{A};p").typed("z");
        Refusals refusals = new Refusals(CHECK, "16", run);
        int[][] pairs = {{-1, 0}, {12, 0}, {32, 0}, {Integer.MIN_VALUE, 0}, {Integer.MAX_VALUE, 0}, {0, -1}, {0, 2}, {0, 40},
            {0, Integer.MIN_VALUE}, {0, Integer.MAX_VALUE}, {1, 0}, {2, 0}, {11, 0}};
        for (int[] pair : pairs) {
            for (int what : new int[] {-1, 0, 5, 6}) {
                String call = "link(" + pair[0] + ", " + pair[1] + ", " + what + ")";
                refusals.refused(call, NO_SUCH, x -> x.link(pair[0], pair[1], what));
            }
        }
        for (int what : new int[] {-1, 6, 7, Integer.MIN_VALUE, Integer.MAX_VALUE}) {
            refusals.refused("link(0, 0, " + what + ")", BAD_VALUE, x -> x.link(0, 0, what));
            refusals.refused("link(0, 1, " + what + ")", BAD_VALUE, x -> x.link(0, 1, what));
        }
        links(run.made(), 'A', 0, DIRECT, 0, 0, 0, 0, NONE);
        links(run.made(), 'A', 1, DANGLING, 1, 1, 0, 1, NONE);
        LinkAuditor most = new Run().loaded('L', "[#a],".repeat(31) + "[A]").made();
        links(most, 'L', 30, DANGLING, 11, 1, 0, 11, NONE);
        links(most, 'L', 31, LOST, 0, 0, 0, 0, NONE);
        CHECK.is("16 the last of 40", new Run().loaded('L', "[L],".repeat(40).substring(0, 159)).made().link(11, 39, 4), 11);
    }

    /** "A target without a letter is one within its page. A target without an anchor means the page as a whole." */
    private static void targetsWithoutLetterOrAnchor() {
        LinkAuditor x = new Run().loaded('L', "[#a],[L],[L#a];=a").loaded('A', "{L};[#a],[#b]").made();
        links(x, 'L', 0, DIRECT, 11, 1, 0, 11, 0);
        links(x, 'L', 1, DIRECT, 11, 0, 0, 11, NONE);
        links(x, 'L', 2, DIRECT, 11, 1, 0, 11, 0);
        links(x, 'A', 0, DIRECT, 0, 1, 0, 0, 0);
        links(x, 'A', 1, DANGLING, 0, 1, 0, 0, NONE);
        CHECK.is("16 links of included pages are not its own", x.link(0, 2, 0), NO_SUCH);
        x = new Run().loaded('A', "p,[L]").made();
        links(x, 'A', 0, LOST, 11, 0, 0, 11, NONE);
    }

    /** "1. If the same page and anchor have been here before, the link is CIRCULAR." */
    private static void placesThatHaveBeenHere() {
        Run run = new Run().loaded('A', "[B],[B#a],[#x]");
        LinkAuditor x = run.redirected("B>C").redirected("C>B").made();
        links(x, 'A', 0, CIRCULAR, 1, 0, 2, 1, NONE);
        links(x, 'A', 1, CIRCULAR, 1, 1, 2, 1, NONE);
        // The same page with another anchor, or without one, is not the same.
        x = run.redirected("B>B#a").redirected("B#a>B#b").made();
        links(x, 'A', 0, CIRCULAR, 1, 0, 3, 1, NONE);
        x = run.redirected("B>B#a").redirected("B#a>C").redirected("C>A").made();
        links(x, 'A', 0, REDIRECTED, 1, 0, 3, 0, NONE);
        x = run.redirected("B#a>B").made();
        links(x, 'A', 0, LOST, 1, 0, 0, 1, NONE);
        links(x, 'A', 1, LOST, 1, 1, 1, 1, NONE);
        // Within a page with a source, and a way that enters a circle behind its first place.
        x = run.redirected("A#x>A#y").redirected("A#y>A#z").redirected("A#z>A#y").made();
        links(x, 'A', 2, CIRCULAR, 0, 1, 3, 0, NONE);
        x = run.redirected("A#x>B#q").redirected("B#q>C").redirected("C>D#q").redirected("D#q>B#q").made();
        links(x, 'A', 2, CIRCULAR, 0, 1, 4, 1, NONE);
        // The whole page leads to its own anchor: the same place at once.
        x = run.redirected("B>B#a").made();
        links(x, 'A', 0, CIRCULAR, 1, 0, 2, 1, NONE);
        links(x, 'A', 1, CIRCULAR, 1, 1, 1, 1, NONE);
    }

    /** "2. If the page has a source, and there is no anchor or one of its headings has this anchor, the link is good". */
    private static void goodLinks() {
        Run run = new Run().loaded('A', "[B],[B#b],[B#b-1],[B#b-2],[#b]").loaded('B', "=b;{C}").loaded('C', "=b");
        LinkAuditor x = run.redirected("B>C").redirected("B#b>C").redirected("B#b-1>C#b").redirected("B#b-2>B#b-1").made();
        links(x, 'A', 0, DIRECT, 1, 0, 0, 1, NONE);
        links(x, 'A', 1, DIRECT, 1, 1, 0, 1, 0);
        links(x, 'A', 2, DIRECT, 1, 1, 0, 1, 1);
        links(x, 'A', 3, REDIRECTED, 1, 1, 1, 1, 1);
        links(x, 'A', 4, DANGLING, 0, 1, 0, 0, NONE);
        x.remove(2);
        links(x, 'A', 2, LOST, 1, 1, 1, 2, NONE);
        links(x, 'A', 3, LOST, 1, 1, 2, 2, NONE);
        // A heading in the 100th line can be linked to, one in the 101st cannot.
        String half = "b;".repeat(48) + "b";
        Run end = new Run().loaded('B', half).loaded('A', "{B};{B};p;=y;=z").loaded('C', "[A#y],[A#z]");
        links(end.made(), 'C', 0, DIRECT, 0, 1, 0, 0, 0);
        links(end.made(), 'C', 1, DANGLING, 0, 1, 0, 0, NONE);
    }

    /** "3. If a redirect leads from this page with this anchor (or none), it is followed". */
    private static void redirectsOfThisPlace() {
        Run run = new Run().loaded('A', "=a;[#q],[B],[B#q],[B#q-1]");
        LinkAuditor x = run.redirected("A#q>A#a").redirected("B>A").redirected("B#q>A#a").redirected("B#q-1>C").made();
        links(x, 'A', 0, REDIRECTED, 0, 1, 1, 0, 0);
        links(x, 'A', 1, REDIRECTED, 1, 0, 1, 0, NONE);
        links(x, 'A', 2, REDIRECTED, 1, 1, 1, 0, 0);
        links(x, 'A', 3, LOST, 1, 1, 1, 2, NONE);
        // The anchor is not taken along by a redirect of this very place.
        x = run.redirected("B#q>A").made();
        links(x, 'A', 2, REDIRECTED, 1, 1, 1, 0, NONE);
        // It comes before the redirect of the whole page.
        x = run.redirected("B>C").redirected("B#q>A#a").made();
        links(x, 'A', 2, REDIRECTED, 1, 1, 1, 0, 0);
        links(x, 'A', 3, LOST, 1, 1, 1, 2, NONE);
    }

    /** "4. If the page has no source, there is an anchor, and a redirect leads from this page without an anchor". */
    private static void redirectsOfTheWholePage() {
        Run run = new Run().loaded('A', "=a;=q;[B#q],[B#z]");
        LinkAuditor x = run.redirected("B>A").made();
        links(x, 'A', 0, REDIRECTED, 1, 1, 1, 0, 1);
        links(x, 'A', 1, DANGLING, 1, 1, 1, 0, NONE);
        x = run.redirected("B>A#a").made();
        links(x, 'A', 0, REDIRECTED, 1, 1, 1, 0, 0);
        links(x, 'A', 1, REDIRECTED, 1, 1, 1, 0, 0);
        // With a source, if only of one line, it is not followed.
        x = run.redirected("B>A").loaded('B', "b").made();
        links(x, 'A', 0, DANGLING, 1, 1, 0, 1, NONE);
        x.remove(1);
        links(x, 'A', 0, REDIRECTED, 1, 1, 1, 0, 1);
        // The anchor is taken along over several pages.
        x = run.redirected("B>C").redirected("C>D").redirected("D>A").made();
        links(x, 'A', 0, REDIRECTED, 1, 1, 3, 0, 1);
        CHECK.is("15 each once by each link", x.redirection(2, 4), 2);
    }

    /** "5. Otherwise the link is LOST if the page has no source, and DANGLING if it has one." */
    private static void lostOrDangling() {
        Run run = new Run().loaded('A', "[B],[B#b],[#b],[L],[L#l]");
        LinkAuditor x = run.made();
        int[] kinds = {LOST, LOST, DANGLING, LOST, LOST};
        int[] pages = {1, 1, 0, 11, 11};
        for (int link = 0; link < 5; link++) {
            CHECK.is("16 kind of " + link, x.link(0, link, 0), kinds[link]);
            CHECK.is("16 followed by " + link, x.link(0, link, 3), 0);
            CHECK.is("16 end of " + link, x.link(0, link, 4), pages[link]);
            CHECK.is("16 heading of " + link, x.link(0, link, 5), NONE);
        }
        x = run.loaded('L', "q").made();
        links(x, 'A', 3, DIRECT, 11, 0, 0, 11, NONE);
        links(x, 'A', 4, DANGLING, 11, 1, 0, 11, NONE);
        x = run.loaded('L', "q").redirected("B>L").made();
        links(x, 'A', 0, REDIRECTED, 1, 0, 1, 11, NONE);
        links(x, 'A', 1, DANGLING, 1, 1, 1, 11, NONE);
        x = run.redirected("B>L").made();
        links(x, 'A', 0, LOST, 1, 0, 1, 11, NONE);
    }

    /** The most redirects that one link can follow, by twelve redirects. */
    private static void longestWays() {
        for (int whole = 1; whole <= 11; whole++) {
            // A ring of pages without a source, left and entered again with another anchor each time.
            Run run = new Run().loaded('L', "[A#n0],[A]");
            for (int page = 0; page < whole - 1; page++) {
                run = run.redirected((char) ('A' + page) + ">" + (char) ('B' + page));
            }
            char last = (char) ('A' + whole - 1);
            int rounds = 12 - (whole - 1);
            for (int round = 0; round < rounds; round++) {
                run = run.redirected(last + "#n" + round + ">" + "A#n" + (round + 1));
            }
            int due = rounds * whole + whole - 1;
            LinkAuditor x = run.made();
            CHECK.is("13 twelve", x.count(2), 12);
            links(x, 'L', 0, LOST, 0, 1, due, whole - 1, NONE);
            links(x, 'L', 1, LOST, 0, 0, whole - 1, whole - 1, NONE);
            Run back = run.and("unredirect", y -> y.unredirect(11)).redirected(last + "#n" + (rounds - 1) + ">A#n0");
            if (rounds > 1) {
                links(back.made(), 'L', 0, CIRCULAR, 0, 1, rounds * whole, 0, NONE);
            }
        }
    }

    /** tally: "DIRECT to DANGLING", "BAD_VALUE if what is out of range". */
    private static void tallies() {
        Run run = new Run().loaded('A', "[A],[B],[C],[D],[#q],[A]").loaded('L', "[E],[#a],[C#v],[L]");
        run = run.redirected("B>A").redirected("C>D").redirected("D>C");
        int[] due = {3, 1, 3, 1, 2};
        for (int what = 0; what < 5; what++) {
            CHECK.is("17 tally(" + what + ")", run.made().tally(what), due[what]);
            CHECK.is("17 without links", new Run().loaded('A', "a").made().tally(what), 0);
        }
        Refusals refusals = new Refusals(CHECK, "17", run);
        for (int what : new int[] {-1, 5, 6, Integer.MIN_VALUE, Integer.MAX_VALUE}) {
            refusals.refused("tally(" + what + ")", BAD_VALUE, x -> x.tally(what));
        }
        Run most = new Run();
        for (char page = 'A'; page <= 'L'; page++) {
            most = most.loaded(page, "[A],".repeat(39) + (page == 'C' ? "[#a]" : "[A]"));
        }
        CHECK.is("17 the most links", most.made().tally(DIRECT), 479);
        CHECK.is("25 all", most.made().count(4), 480);
        CHECK.is("25 broken", most.made().count(5), 1);
    }

    /** reach: NO_SUCH before BAD_VALUE; "BAD_VALUE if what is neither 0 nor 1". */
    private static void reachErrors() {
        Run run = new Run().loaded('A', "[L]").loaded('L', "l").typed("p");
        Refusals refusals = new Refusals(CHECK, "18", run);
        for (int far : FAR) {
            for (int what : new int[] {-1, 0, 1, 2}) {
                refusals.refused("reach(" + far + ", " + what + ")", NO_SUCH, x -> x.reach(far, what));
            }
        }
        for (int what : new int[] {-1, 2, 3, Integer.MIN_VALUE, Integer.MAX_VALUE}) {
            for (int page : new int[] {0, 1, 11}) {
                refusals.refused("reach(" + page + ", " + what + ")", BAD_VALUE, x -> x.reach(page, what));
            }
        }
        CHECK.is("18 reach(0, 0)", run.made().reach(0, 0), 1 | 1 << 11);
        CHECK.is("18 reach(11, 0)", run.made().reach(11, 0), 1 << 11);
        CHECK.is("18 reach(11, 1)", run.made().reach(11, 1), 1);
        CHECK.is("18 a page without a source", run.made().reach(5, 0), 1 << 5);
        CHECK.is("18 what it does not reach", run.made().reach(5, 1), 1 | 1 << 11);
    }

    /** "this page, and from each reached page that has a source, the pages at the ends of its good links and ... includes". */
    private static void reachedPages() {
        Run run = new Run().loaded('A', "[B],[C#c],[#q],[E],[G]").redirected("E>F").redirected("G>H")
            .redirected("H>G").loaded('C', "=x");
        CHECK.is("18 broken links lead nowhere", run.made().reach(0, 0), 1);
        CHECK.is("18 the others", run.made().reach(0, 1), 4);
        CHECK.is("18 a good one", run.loaded('B', "b").made().reach(0, 0), 3);
        CHECK.is("18 the end of a redirected one", run.loaded('F', "f").made().reach(0, 0), 1 | 32);
        CHECK.is("18 by an anchor", run.loaded('C', "=c").made().reach(0, 0), 1 | 4);
        // Includes lead to pages without a source, too, but not on from them.
        Run includes = new Run().loaded('A', "{B};{A}").redirected("B>C").loaded('C', "[A]");
        CHECK.is("18 a page without a source", includes.made().reach(0, 0), 3);
        CHECK.is("18 what is not reached", includes.made().reach(0, 1), 4);
        CHECK.is("18 it has one now", includes.loaded('B', "[C]").made().reach(0, 0), 7);
        // What is included by an included page is reached by way of it.
        Run deep = new Run().loaded('A', "{B}").loaded('B', "{C};[D]").loaded('D', "{L}");
        CHECK.is("18 by way of others", deep.made().reach(0, 0), 1 | 2 | 4 | 8 | 1 << 11);
    }

    /** The longest chains, along and against the order of the pages. */
    private static void reachOverAllPages() {
        Run up = new Run().loaded('L', "l");
        Run down = new Run().loaded('A', "a");
        for (char page = 'A'; page < 'L'; page++) {
            char next = (char) (page + 1);
            up = up.loaded(page, page % 2 == 0 ? "[" + next + "]" : "{" + next + "}");
            down = down.loaded(next, page % 2 == 0 ? "[" + page + "]" : "{" + page + "}");
        }
        for (int page = 0; page < 12; page++) {
            int higher = 4095 & -(1 << page);
            int lower = (1 << page + 1) - 1;
            CHECK.is("18 up from " + page, up.made().reach(page, 0), higher);
            CHECK.is("18 up, not from " + page, up.made().reach(page, 1), 4095 & ~higher);
            CHECK.is("18 down from " + page, down.made().reach(page, 0), lower);
            CHECK.is("18 down, not from " + page, down.made().reach(page, 1), 4095 & ~lower);
        }
    }
}
