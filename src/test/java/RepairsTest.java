/** Promises 19 to 23: memory, repair, mend, mendAll, straighten. */
public final class RepairsTest {
    private static final Check CHECK = new Check();
    private static final int NO_SUCH = -1, BAD_VALUE = -2, TOO_MANY = -4, NOT_POSSIBLE = -5, NONE = -6;
    private static final int DIRECT = 0, DANGLING = 4;
    private static final int[] ODD = {-2, -3, 99, Integer.MAX_VALUE, Integer.MIN_VALUE};

    public static void main(String[] args) {
        memory();
        memoryOrder();
        memoryLimit();
        memoryOfLeftOut();
        repairWithoutAnchor();
        repairBySteps();
        repairsOneAfterAnother();
        repairTies();
        repairByMemory();
        repairOfCircularLinks();
        repairByLongAnchors();
        repairErrors();
        mend();
        mendLength();
        mendAll();
        mendAllInTurn();
        mendAllLength();
        straighten();
        straightenLength();
        CHECK.end("RepairsTest");
    }

    private static void memory() {
        LinkAuditor x = new LinkAuditor();
        Check.load(x, 'A', "p;=a;a;=empty;=abcdefgh;{B};a;=a;b");
        CHECK.is("19 nothing is replaced", x.memory(-1, 0), 0);
        int digest = x.section(0, 2, 0);
        Check.load(x, 'A', "=z;a");
        CHECK.is("19 three sections", x.memory(-1, 3), 3);
        CHECK.is("19 page", x.memory(0, 0), 0);
        CHECK.is("19 digest", x.memory(0, 1), 8653);
        CHECK.is("19 length", x.memory(0, 2), 1);
        CHECK.is("19 now", x.memory(0, 3), 1);
        CHECK.is("19 digest", x.memory(1, 1), digest);
        CHECK.is("19 length", x.memory(1, 2), 8);
        CHECK.is("19 now", x.memory(1, 3), 0);
        CHECK.is("19 length of a-1", x.memory(2, 2), 3);
        Check.load(x, 'C', "=y;a;=x;a;=w;b");
        CHECK.is("19 now", x.memory(0, 3), 3);
        CHECK.is("19 now", x.memory(2, 3), 1);
        for (int odd : ODD) {
            CHECK.is("19 memory(" + odd + ", 0)", x.memory(odd, 0), NONE);
            CHECK.is("19 memory(" + odd + ", 9)", x.memory(odd, 9), BAD_VALUE);
            CHECK.is("19 memory(0, " + odd + ")", x.memory(0, odd), BAD_VALUE);
            CHECK.is("19 memory(-1, " + odd + ")", x.memory(-1, odd), BAD_VALUE);
        }
        CHECK.is("19 memory(3, 0)", x.memory(3, 0), NONE);
        CHECK.is("19 memory(0, 4)", x.memory(0, 4), BAD_VALUE);
        CHECK.is("19 memory(0, -1)", x.memory(0, -1), BAD_VALUE);
        CHECK.is("19 count", x.count(3), 3);
    }

    private static void memoryOrder() {
        LinkAuditor x = new LinkAuditor();
        Check.load(x, 'A', "=a;p;=bb;q");
        Check.load(x, 'B', "=a;r");
        x.remove(0);
        x.remove(1);
        CHECK.is("19 entries", x.memory(-1, 0), 3);
        CHECK.is("19 oldest", x.memory(0, 2), 1);
        Check.load(x, 'A', "=a;s");
        Check.load(x, 'A', "q");
        CHECK.is("19 the same place", x.memory(-1, 0), 3);
        CHECK.is("19 oldest", x.memory(0, 2), 2);
        CHECK.is("19 its digest", x.memory(0, 1), 8653 + 'q' - 'a');
        CHECK.is("19 another page", x.memory(1, 0), 1);
        CHECK.is("19 its digest", x.memory(1, 1), 8653 + 'r' - 'a');
        CHECK.is("19 newest", x.memory(2, 0), 0);
        CHECK.is("19 newest", x.memory(2, 1), (31 * (31 * 7 + ';') + 's') % 1000003);
        CHECK.is("19 no section has it", x.memory(2, 3), 0);
    }

    private static void memoryLimit() {
        LinkAuditor x = new LinkAuditor();
        Check.load(x, 'A', "=a;p;".repeat(31) + "=a;p");
        Check.load(x, 'B', "=b;q;".repeat(31) + "=b;q");
        x.remove(0);
        CHECK.is("19 32 sections", x.memory(-1, 0), 32);
        x.remove(1);
        CHECK.is("19 40 sections", x.memory(-1, 0), 40);
        CHECK.is("19 the oldest is a-24", x.memory(0, 0), 0);
        CHECK.is("19 its length", x.memory(0, 2), 4);
        CHECK.is("19 a-31", x.memory(7, 0), 0);
        CHECK.is("19 b", x.memory(8, 0), 1);
        CHECK.is("19 b", x.memory(8, 2), 1);
        CHECK.is("19 b-31", x.memory(39, 2), 4);
        CHECK.is("19 no 41st", x.memory(40, 0), NONE);
        Check.load(x, 'C', "=abcdefgh;".repeat(10) + "=abcdefgh;p");
        x.remove(2);
        CHECK.is("19 the longest anchor", x.memory(39, 2), 11);
        x.undo();
        x.undo();
        Check.load(x, 'B', "=b;z");
        x.remove(1);
        CHECK.is("19 the same place", x.memory(-1, 0), 40);
        CHECK.is("19 the oldest stays", x.memory(0, 0), 0);
        CHECK.is("19 b-1 moved up", x.memory(8, 2), 3);
        CHECK.is("19 b is the newest", x.memory(39, 2), 1);
    }

    private static void memoryOfLeftOut() {
        LinkAuditor x = new LinkAuditor();
        Check.load(x, 'B', "a;".repeat(79) + "a");
        Check.load(x, 'A', "=a;p;{B};=b;q;{B};=c;r");
        CHECK.is("19 c is left out", x.section(0, 2, 1), NONE);
        x.remove(0);
        CHECK.is("19 only those with anchors", x.memory(-1, 0), 2);
        x.undo();
        int digest = x.section(0, 2, 0);
        Check.load(x, 'C', "=x;r");
        x.remove(2);
        CHECK.is("19 the same digest", x.memory(0, 1), digest);
        CHECK.is("19 a section without an anchor does not count", x.memory(0, 3), 0);
    }

    private static void repairs(LinkAuditor x, char page, int link, int... due) {
        for (int what = 0; what < 3; what++) {
            String call = "20 repair(" + page + ", " + link + ", " + what + ")";
            CHECK.is(call, x.repair(page - 'A', link, what), due[what]);
        }
    }

    private static void repairWithoutAnchor() {
        LinkAuditor x = new LinkAuditor();
        Check.load(x, 'A', "=b;[B],[L],[D]");
        repairs(x, 'A', 0, 5, 0, NONE);
        repairs(x, 'A', 1, 15, 0, NONE);
        Check.load(x, 'C', "q");
        Check.load(x, 'E', "q");
        repairs(x, 'A', 0, 5, 0, NONE);
        repairs(x, 'A', 1, 11, 4, NONE);
        repairs(x, 'A', 2, 5, 2, NONE);
        Check.redirect(x, "L>B");
        CHECK.is("20 lost elsewhere", x.link(0, 1, 4), 1);
        repairs(x, 'A', 1, 11, 4, NONE);
    }

    private static void repairBySteps() {
        LinkAuditor x = new LinkAuditor();
        Check.load(x, 'A', "=abc;[#abd],[#ab],[#xabc],[#bc],[B#abd],[#wxyz],[B#wxyz],[B#abc],[#cab]");
        repairs(x, 'A', 0, 2, 0, 0);
        repairs(x, 'A', 1, 2, 0, 0);
        repairs(x, 'A', 2, 2, 0, 0);
        repairs(x, 'A', 3, 2, 0, 0);
        repairs(x, 'A', 4, 6, 0, 0);
        repairs(x, 'A', 5, 6, 0, NONE);
        repairs(x, 'A', 6, 10, 0, NONE);
        repairs(x, 'A', 7, 4, 0, 0);
        repairs(x, 'A', 8, 4, 0, 0);
        Check.load(x, 'B', "=q");
        repairs(x, 'A', 4, 6, 0, 0);
        repairs(x, 'A', 6, 6, 1, NONE);
        repairs(x, 'A', 7, 4, 0, 0);
        Check.load(x, 'C', "=abcdefgh;=abcdefgh;[#abcdefgh-2],[#abcdefgh-99],[D#abcdefgh-9]");
        repairs(x, 'C', 0, 2, 2, 1);
        repairs(x, 'C', 1, 4, 2, 1);
        repairs(x, 'C', 2, 6, 2, 1);
    }

    /** What was found for one link leaves nothing behind for the next one. */
    private static void repairsOneAfterAnother() {
        LinkAuditor x = new LinkAuditor();
        Check.load(x, 'A', "=abc;[#abd],[#q],[#abcdef],[L]");
        for (int times = 0; times < 2; times++) {
            repairs(x, 'A', 0, 2, 0, 0);
            repairs(x, 'A', 1, 6, 0, NONE);
            repairs(x, 'A', 2, 6, 0, NONE);
            repairs(x, 'A', 3, 15, 0, NONE);
        }
    }

    private static void repairTies() {
        LinkAuditor x = new LinkAuditor();
        Check.load(x, 'A', "=abcde;[#ab],[#abc],[B#x]");
        repairs(x, 'A', 0, 6, 0, NONE);
        repairs(x, 'A', 1, 4, 0, 0);
        Check.load(x, 'D', "=p;=x");
        Check.load(x, 'C', "=q;=r;=x");
        repairs(x, 'A', 2, 4, 2, 2);
        Check.load(x, 'E', "=ab;=ac;[#ad]");
        repairs(x, 'E', 0, 2, 4, 0);
        Check.load(x, 'F', "=ad");
        repairs(x, 'E', 0, 2, 4, 0);
        Check.load(x, 'G', "[B#x]");
        Check.redirect(x, "B#x>H#q");
        CHECK.is("20 the redirect is followed", x.link(6, 0, 4), 7);
        repairs(x, 'G', 0, 4, 2, 2);
    }

    private static void repairByMemory() {
        LinkAuditor x = new LinkAuditor();
        Check.load(x, 'B', "=old;text");
        Check.load(x, 'A', "=olds;z;[B#old]");
        Check.load(x, 'B', "=new;text");
        repairs(x, 'A', 0, 1, 1, 0);
        Check.load(x, 'C', "{B}");
        repairs(x, 'A', 0, 1, 1, 0);
        Check.load(x, 'B', "=new;other");
        repairs(x, 'A', 0, 6, 0, 0);
        Check.load(x, 'L', "=q;=r;text;=s;text");
        repairs(x, 'A', 0, 1, 11, 1);
        Check.load(x, 'A', "=olds;z;[B#old];=t;text");
        repairs(x, 'A', 0, 1, 0, 1);
        Check.load(x, 'D', "[C#old]");
        repairs(x, 'D', 0, 6, 0, 0);
    }

    private static void repairOfCircularLinks() {
        LinkAuditor x = new LinkAuditor();
        Check.load(x, 'A', "=a;[B#b],[B]");
        Check.redirect(x, "B>C");
        Check.redirect(x, "C>B");
        CHECK.is("20 circular", x.link(0, 0, 0), 2);
        repairs(x, 'A', 0, 6, 0, 0);
        repairs(x, 'A', 1, 5, 0, NONE);
        CHECK.is("21 a circular link", x.mend(0, 0), 11);
        CHECK.is("22 a circular link", x.mendAll(), 1);
        CHECK.same("22 the source", Check.source(x, 'A'), "=a;[#a],[A]");
    }

    private static void repairByLongAnchors() {
        LinkAuditor x = new LinkAuditor();
        Check.load(x, 'B', "=zz09yyyy;".repeat(12) + "=q");
        Check.load(x, 'A', "[B#zz09yyyy-12],[C#zz09yyyy-10],[B#zz09yyyy-10],[B#zz09yyyy-41]");
        repairs(x, 'A', 0, 2, 1, 1);
        repairs(x, 'A', 1, 4, 1, 10);
        CHECK.is("20 a number of two digits", x.link(0, 2, 5), 10);
        repairs(x, 'A', 3, 2, 1, 1);
        Check.load(x, 'D', "[B#zz09xyyy-10],[B#zz09yyxx-11]");
        repairs(x, 'D', 0, 2, 1, 10);
        repairs(x, 'D', 1, 4, 1, 11);
        x.remove(3);
        CHECK.is("21 the longest target", x.mend(0, 1), 63);
        CHECK.is("22 the others", x.mendAll(), 2);
        String due = "[B#zz09yyyy-1],[B#zz09yyyy-10],[B#zz09yyyy-10],[B#zz09yyyy-1]";
        CHECK.same("22 the source", Check.source(x, 'A'), due);
    }

    private static void repairErrors() {
        LinkAuditor x = new LinkAuditor();
        CHECK.is("20 without a source", x.repair(0, 0, 0), NO_SUCH);
        Check.load(x, 'A', "[A],[B]");
        for (int odd : new int[] {-1, 2, 12, 99, Integer.MAX_VALUE, Integer.MIN_VALUE}) {
            CHECK.is("20 repair(" + odd + ", 0, 0)", x.repair(odd, 0, 0), NO_SUCH);
            CHECK.is("20 repair(0, " + odd + ", 99)", x.repair(0, odd, 99), NO_SUCH);
            CHECK.is("21 mend(" + odd + ", 0)", x.mend(odd, 0), NO_SUCH);
            CHECK.is("21 mend(0, " + odd + ")", x.mend(0, odd), NO_SUCH);
            CHECK.is("23 straighten(" + odd + ", 0)", x.straighten(odd, 0), NO_SUCH);
            CHECK.is("23 straighten(0, " + odd + ")", x.straighten(0, odd), NO_SUCH);
        }
        for (int odd : new int[] {-1, 3, Integer.MAX_VALUE, Integer.MIN_VALUE}) {
            CHECK.is("20 repair(0, 0, " + odd + ")", x.repair(0, 0, odd), BAD_VALUE);
            CHECK.is("20 repair(0, 1, " + odd + ")", x.repair(0, 1, odd), BAD_VALUE);
        }
        CHECK.is("20 a good link", x.repair(0, 0, 0), NOT_POSSIBLE);
        CHECK.is("21 a good link", x.mend(0, 0), NOT_POSSIBLE);
        CHECK.is("23 a direct link", x.straighten(0, 0), NOT_POSSIBLE);
        CHECK.is("23 a lost link", x.straighten(0, 1), NOT_POSSIBLE);
        Check.redirect(x, "B>A");
        CHECK.is("20 a redirected link", x.repair(0, 1, 0), NOT_POSSIBLE);
        CHECK.is("21 a redirected link", x.mend(0, 1), NOT_POSSIBLE);
        CHECK.is("22 good links", x.mendAll(), 0);
        CHECK.is("22 no change", x.count(6), 2);
    }

    private static void mend() {
        LinkAuditor x = new LinkAuditor();
        Check.load(x, 'A', "=abc;x,[#abd],y;[L],[A#ab],[C#zzzz];q");
        Check.load(x, 'B', "[A#ac];z");
        CHECK.is("21 within the page", x.mend(0, 0), 37);
        CHECK.same("21 the source", Check.source(x, 'A'), "=abc;x,[#abc],y;[L],[A#ab],[C#zzzz];q");
        CHECK.is("21 the page as a whole", x.mend(0, 1), 37);
        CHECK.same("21 the source", Check.source(x, 'A'), "=abc;x,[#abc],y;[B],[A#ab],[C#zzzz];q");
        CHECK.is("21 the letter is left out", x.mend(0, 2), 37);
        CHECK.same("21 the source", Check.source(x, 'A'), "=abc;x,[#abc],y;[B],[#abc],[C#zzzz];q");
        CHECK.is("21 the anchor goes", x.mend(0, 3), 32);
        CHECK.same("21 the source", Check.source(x, 'A'), "=abc;x,[#abc],y;[B],[#abc],[A];q");
        CHECK.is("21 another page", x.mend(1, 0), 9);
        CHECK.same("21 the source", Check.source(x, 'B'), "[A#abc];z");
        CHECK.is("21 nothing is remembered", x.memory(-1, 0), 0);
        CHECK.is("21 all are good", x.tally(DIRECT), 5);
        CHECK.is("21 again", x.mend(0, 0), NOT_POSSIBLE);
        int digest = 7;
        for (char sign : ";x,[#abc],y;[B],[#abc],[A];q".toCharArray()) {
            digest = (31 * digest + sign) % 1000003;
        }
        CHECK.is("21 the section is found anew", x.section(0, 0, 0), digest);
        CHECK.is("21 changes", x.count(6), 7);
    }

    private static String filled(String begin, int length) {
        StringBuilder text = new StringBuilder(begin);
        while (text.length() < length) {
            text.append(length - text.length() == 1 ? "n" : ",n");
        }
        return text.toString();
    }

    private static void mendLength() {
        LinkAuditor x = new LinkAuditor();
        Check.load(x, 'A', filled("=abcdefgh;[#abcdefg],m", 160));
        CHECK.is("21 the length", x.character(0, -1), 160);
        CHECK.is("21 too long", x.mend(0, 0), TOO_MANY);
        CHECK.is("21 no change", x.count(6), 1);
        CHECK.is("21 it is still broken", x.link(0, 0, 0), DANGLING);
        CHECK.is("22 too long", x.mendAll(), 0);
        CHECK.is("22 no change", x.count(6), 1);
        Check.load(x, 'A', filled("=abcdefgh;[#abcdefg],m", 159));
        CHECK.is("21 not too long", x.mend(0, 0), 160);
        CHECK.is("21 not broken", x.mend(0, 0), NOT_POSSIBLE);
        CHECK.same("21 the source", Check.source(x, 'A'), filled("=abcdefgh;[#abcdefgh],m", 160));
    }

    private static void mendAll() {
        LinkAuditor x = new LinkAuditor();
        CHECK.is("22 nothing", x.mendAll(), 0);
        Check.load(x, 'C', "=x;[D#x],[#x],[A#x]");
        Check.load(x, 'A', "[C#y],[B];[C#x]");
        Check.load(x, 'L', "[K#x]");
        CHECK.is("22 mendAll", x.mendAll(), 5);
        CHECK.same("22 the source", Check.source(x, 'A'), "[C#x],[A];[C#x]");
        CHECK.same("22 the source", Check.source(x, 'C'), "=x;[#x],[#x],[#x]");
        CHECK.same("22 the source", Check.source(x, 'L'), "[C#x]");
        CHECK.is("22 one change", x.count(6), 4);
        CHECK.is("22 nothing is remembered", x.count(3), 0);
        CHECK.is("22 nothing more", x.mendAll(), 0);
        CHECK.is("22 no change", x.count(6), 4);
        CHECK.is("22 undone at once", x.undo(), 3);
        CHECK.same("22 the source", Check.source(x, 'A'), "[C#y],[B];[C#x]");
        CHECK.same("22 the source", Check.source(x, 'C'), "=x;[D#x],[#x],[A#x]");
        CHECK.same("22 the source", Check.source(x, 'L'), "[K#x]");
    }

    /** The first link makes the section what was remembered; the second one is mended by that. */
    private static void mendAllInTurn() {
        LinkAuditor x = new LinkAuditor();
        Check.load(x, 'C', "=x;[A]");
        Check.load(x, 'C', "q");
        Check.load(x, 'A', "=mmmm;[B];=nnnn;[C#x]");
        repairs(x, 'A', 1, 6, 2, NONE);
        CHECK.is("22 mendAll", x.mendAll(), 2);
        CHECK.same("22 the source", Check.source(x, 'A'), "=mmmm;[A];=nnnn;[#mmmm]");
        x.undo();
        x.mend(0, 0);
        repairs(x, 'A', 1, 1, 0, 0);
        x.undo();
        Check.load(x, 'A', "=nnnn;[C#x];=mmmm;[B]");
        CHECK.is("22 mendAll", x.mendAll(), 2);
        CHECK.same("22 the other order", Check.source(x, 'A'), "=nnnn;[C];=mmmm;[A]");
    }

    private static void mendAllLength() {
        LinkAuditor x = new LinkAuditor();
        Check.load(x, 'B', filled("=abcdefgh;[#abcdefg],[C#abcdefgh],m", 160));
        Check.load(x, 'D', "[#a]");
        CHECK.is("22 the longer one is left", x.mendAll(), 2);
        CHECK.same("22 the source", Check.source(x, 'B'), filled("=abcdefgh;[#abcdefg],[#abcdefgh],m", 159));
        CHECK.same("22 the page behind", Check.source(x, 'D'), "[D]");
        CHECK.is("22 one change", x.count(6), 3);
        CHECK.is("22 there is room now", x.mendAll(), 1);
        CHECK.is("22 the length", x.character(1, -1), 160);
        CHECK.is("22 no broken link", x.count(5), 0);
    }

    private static void straighten() {
        LinkAuditor x = new LinkAuditor();
        Check.load(x, 'A', "=a;[B],[B#a],[C#q],[#z],[D]");
        Check.load(x, 'E', "=e;=e");
        Check.redirect(x, "B>A");
        Check.redirect(x, "C>E#e-1");
        Check.redirect(x, "A#z>C");
        Check.redirect(x, "D>F");
        CHECK.is("23 the page as a whole", x.straighten(0, 0), 27);
        CHECK.same("23 the source", Check.source(x, 'A'), "=a;[A],[B#a],[C#q],[#z],[D]");
        CHECK.is("23 within the page", x.straighten(0, 1), 26);
        CHECK.same("23 the source", Check.source(x, 'A'), "=a;[A],[#a],[C#q],[#z],[D]");
        CHECK.is("23 another page", x.straighten(0, 2), 28);
        CHECK.same("23 the source", Check.source(x, 'A'), "=a;[A],[#a],[E#e-1],[#z],[D]");
        CHECK.is("23 by way of two redirects", x.straighten(0, 3), 31);
        CHECK.same("23 the source", Check.source(x, 'A'), "=a;[A],[#a],[E#e-1],[E#e-1],[D]");
        CHECK.is("23 it is lost behind a redirect", x.straighten(0, 4), NOT_POSSIBLE);
        CHECK.is("23 it is direct now", x.straighten(0, 3), NOT_POSSIBLE);
        CHECK.is("23 direct", x.link(0, 3, 0), DIRECT);
        CHECK.is("23 nothing is remembered", x.count(3), 0);
        CHECK.is("23 changes", x.count(6), 10);
        x.undo();
        CHECK.same("23 undone", Check.source(x, 'A'), "=a;[A],[#a],[E#e-1],[#z],[D]");
    }

    private static void straightenLength() {
        LinkAuditor x = new LinkAuditor();
        Check.load(x, 'A', filled("[C],m", 160));
        Check.load(x, 'B', "=b");
        Check.redirect(x, "C>B#b");
        CHECK.is("23 too long", x.straighten(0, 0), TOO_MANY);
        CHECK.is("23 no change", x.count(6), 3);
        CHECK.is("23 the length", x.character(0, -1), 160);
        Check.load(x, 'A', filled("[C],m", 158));
        CHECK.is("23 not too long", x.straighten(0, 0), 160);
        CHECK.same("23 the source", Check.source(x, 'A'), filled("[B#b],m", 160));
    }
}
