/** Promises 24 and 25: undo, count. */
public final class SavingTest {
    private static final Check CHECK = new Check();
    private static final int BAD_VALUE = -2, NOT_POSSIBLE = -5;

    public static void main(String[] args) {
        undoOfPages();
        undoOfRedirects();
        undoOfRepairs();
        undoOfMemory();
        historyOfTen();
        failedCalls();
        count();
        CHECK.end("SavingTest");
    }

    private static void undoOfPages() {
        LinkAuditor x = new LinkAuditor();
        CHECK.is("24 nothing", x.undo(), NOT_POSSIBLE);
        Check.load(x, 'A', "=a;{B}");
        Check.load(x, 'B', "=b;[A]");
        Check.load(x, 'A', "longer;=text");
        x.remove(1);
        x.put('z');
        CHECK.is("24 remove", x.undo(), 3);
        CHECK.same("24 B is back", Check.source(x, 'B'), "=b;[A]");
        CHECK.is("24 its links are back", x.count(4), 1);
        CHECK.is("24 the pad stays", x.count(1), 1);
        CHECK.is("24 load", x.undo(), 2);
        CHECK.same("24 A is back", Check.source(x, 'A'), "=a;{B}");
        CHECK.is("24 its expansion is back", x.about(0, 2), 2);
        CHECK.is("24 load", x.undo(), 1);
        CHECK.is("24 B is gone", x.count(0), 1);
        CHECK.is("24 the expansion without B", x.about(0, 2), 1);
        CHECK.is("24 load", x.undo(), 0);
        CHECK.is("24 A is gone", x.count(0), 0);
        CHECK.is("24 nothing is left", x.undo(), NOT_POSSIBLE);
        CHECK.is("24 the pad stays", x.wipe(), 1);
    }

    private static void undoOfRedirects() {
        LinkAuditor x = new LinkAuditor();
        Check.redirect(x, "A>B");
        Check.redirect(x, "B#b>C#c");
        Check.redirect(x, "C>D");
        x.unredirect(0);
        CHECK.is("24 before", x.redirection(0, 0), 1);
        CHECK.is("24 unredirect", x.undo(), 3);
        CHECK.is("24 redirects", x.count(2), 3);
        CHECK.is("24 the first is back", x.redirection(0, 0), 0);
        CHECK.is("24 the second", x.redirection(1, 3), 1);
        CHECK.is("24 the last", x.redirection(2, 2), 3);
        CHECK.is("24 redirect", x.undo(), 2);
        CHECK.is("24 redirects", x.count(2), 2);
        CHECK.is("24 its place is free", Check.redirect(x, "C>E"), 3);
        x.unredirect(2);
        x.unredirect(1);
        Check.redirect(x, "K>L");
        Check.redirect(x, "L#l>K");
        for (int times = 0; times < 4; times++) {
            x.undo();
        }
        int[][] due = {{0, 0, 1, 0}, {1, 1, 2, 1}, {2, 0, 4, 0}};
        for (int redirect = 0; redirect < 3; redirect++) {
            for (int what = 0; what < 4; what++) {
                String call = "24 redirection(" + redirect + ", " + what + ")";
                CHECK.is(call, x.redirection(redirect, what), due[redirect][what]);
            }
        }
        CHECK.is("24 the anchor is back", Check.redirect(x, "B#b>A"), NOT_POSSIBLE);
    }

    private static void undoOfRepairs() {
        LinkAuditor x = new LinkAuditor();
        Check.load(x, 'A', "=a;[#b],[C],[D]");
        Check.redirect(x, "C>A");
        x.mend(0, 0);
        x.straighten(0, 1);
        x.mendAll();
        CHECK.same("24 before", Check.source(x, 'A'), "=a;[#a],[A],[A]");
        CHECK.is("24 mendAll", x.undo(), 4);
        CHECK.same("24 mendAll", Check.source(x, 'A'), "=a;[#a],[A],[D]");
        CHECK.is("24 the link is lost again", x.link(0, 2, 0), 3);
        CHECK.is("24 straighten", x.undo(), 3);
        CHECK.same("24 straighten", Check.source(x, 'A'), "=a;[#a],[C],[D]");
        CHECK.is("24 mend", x.undo(), 2);
        CHECK.same("24 mend", Check.source(x, 'A'), "=a;[#b],[C],[D]");
        int digest = 7;
        for (char sign : ";[#b],[C],[D]".toCharArray()) {
            digest = (31 * digest + sign) % 1000003;
        }
        CHECK.is("24 the section is back", x.section(0, 0, 0), digest);
    }

    private static void undoOfMemory() {
        LinkAuditor x = new LinkAuditor();
        Check.load(x, 'A', "=a;p;=b;q");
        Check.load(x, 'A', "=b;r");
        Check.load(x, 'A', "=c");
        CHECK.is("24 entries", x.count(3), 2);
        CHECK.is("24 the new digest of b", x.memory(1, 1), 8653 + 'r' - 'a');
        CHECK.is("24 load", x.undo(), 2);
        CHECK.is("24 entries", x.count(3), 2);
        CHECK.is("24 the old digest of b", x.memory(1, 1), 8653 + 'q' - 'a');
        x.undo();
        CHECK.is("24 nothing is remembered by undo", x.count(3), 0);
        x.remove(0);
        CHECK.is("24 remove", x.count(3), 2);
        Check.load(x, 'B', "=other;s");
        x.remove(1);
        Check.load(x, 'A', "=a;t");
        x.remove(0);
        CHECK.is("24 a is the newest", x.memory(2, 2), 1);
        x.undo();
        CHECK.is("24 a is the oldest again", x.memory(0, 2), 1);
        CHECK.is("24 its page", x.memory(0, 0), 0);
        CHECK.is("24 its digest", x.memory(0, 1), 8653 + 'p' - 'a');
        CHECK.is("24 the newest", x.memory(2, 0), 1);
        CHECK.is("24 its length", x.memory(2, 2), 5);
        for (int times = 0; times < 3; times++) {
            x.undo();
        }
        CHECK.is("24 remove", x.count(3), 2);
        x.undo();
        CHECK.is("24 remove is undone", x.count(3), 0);
    }

    private static void historyOfTen() {
        LinkAuditor x = new LinkAuditor();
        for (int number = 0; number < 25; number++) {
            Check.load(x, 'A', "=n" + number + ";t");
            CHECK.is("24 changes", x.count(6), Math.min(number + 1, 10));
        }
        for (int left = 9; left >= 0; left--) {
            CHECK.is("24 undo", x.undo(), left);
            CHECK.same("24 the source", Check.source(x, 'A'), "=n" + (left + 14) + ";t");
            CHECK.is("24 the memory", x.count(3), left + 14);
        }
        CHECK.is("24 no more", x.undo(), NOT_POSSIBLE);
        CHECK.same("24 the source stays", Check.source(x, 'A'), "=n14;t");
        Check.load(x, 'B', "q");
        CHECK.is("24 a new one", x.count(6), 1);
        CHECK.is("24 undo", x.undo(), 0);
        CHECK.same("24 the source stays", Check.source(x, 'A'), "=n14;t");
        CHECK.is("24 B is gone", x.count(0), 1);
    }

    private static void failedCalls() {
        LinkAuditor x = new LinkAuditor();
        Check.load(x, 'A', "[A]");
        Check.redirect(x, "A>B");
        Check.load(x, 'B', "[");
        Check.redirect(x, "A>C");
        x.remove(5);
        x.unredirect(1);
        x.mend(0, 0);
        x.mendAll();
        x.straighten(0, 0);
        CHECK.is("24 failed calls are no changes", x.count(6), 2);
    }

    private static void count() {
        LinkAuditor x = new LinkAuditor();
        Check.load(x, 'B', "=a;p,[A],[C]");
        Check.load(x, 'L', "[#x],[B],[B#a]");
        Check.load(x, 'B', "=b;p,[A],[C]");
        Check.redirect(x, "C>B");
        Check.redirect(x, "D>B");
        Check.type(x, "pad");
        int[] due = {2 | 1 << 11, 3, 2, 1, 5, 3, 5};
        for (int what = 0; what < due.length; what++) {
            CHECK.is("25 count(" + what + ")", x.count(what), due[what]);
        }
        for (int odd : new int[] {-1, 7, 8, Integer.MAX_VALUE, Integer.MIN_VALUE}) {
            CHECK.is("25 count(" + odd + ")", x.count(odd), BAD_VALUE);
        }
    }
}
