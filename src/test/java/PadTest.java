/** Promises 1 to 4: a new object, put, wipe, fault. */
public final class PadTest {
    private static final Check CHECK = new Check();
    private static final int NONE = -6, BAD_VALUE = -2, TOO_MANY = -4;

    public static void main(String[] args) {
        newObject();
        put();
        putEdges();
        wipe();
        faultOfNamesAndHeadings();
        faultOfIncludes();
        faultOfLinks();
        faultOfRedirects();
        faultEdges();
        CHECK.end("PadTest");
    }

    private static void newObject() {
        LinkAuditor x = new LinkAuditor();
        for (int what = 0; what <= 6; what++) {
            CHECK.is("1 new: count(" + what + ")", x.count(what), 0);
        }
        CHECK.is("1 new: undo", x.undo(), -5);
        CHECK.is("1 new: cycles", x.cycles(), 0);
        CHECK.is("1 new: memory(-1, 0)", x.memory(-1, 0), 0);
        CHECK.is("1 new: redirection(0, 0)", x.redirection(0, 0), -1);
        CHECK.is("1 new: mendAll", x.mendAll(), 0);
        for (int page = 0; page < 12; page++) {
            CHECK.is("1 new: about(page, 0)", x.about(page, 0), -5);
            CHECK.is("1 new: reach(page, 0)", x.reach(page, 0), 1 << page);
        }
        LinkAuditor other = new LinkAuditor();
        Check.load(x, 'A', "a");
        CHECK.is("1 another object", other.count(0), 0);
    }

    private static void put() {
        LinkAuditor x = new LinkAuditor();
        CHECK.is("2 put a", x.put('a'), 1);
        CHECK.is("2 put 8", x.put(Check.packed(",bcdefgh")), 9);
        CHECK.is("2 put 2", x.put(Check.packed(";i")), 11);
        CHECK.is("2 load", x.load(3), 2);
        CHECK.same("2 order of the characters", Check.source(x, 'D'), "a,bcdefgh;i");
        CHECK.is("2 put 33", x.put(33), 1);
        CHECK.is("2 put 126", x.put(126), 2);
        long[] wrong = {0, 32, 127, 128, 255, 0x6100, 0x610061, 0x61000000000000L, 0x6120, 0x2061, 0x7f61, -1L,
            Long.MIN_VALUE, Long.MAX_VALUE, 0x8061616161616161L, 0x6161616161616100L, 0x6161616100616161L};
        for (long number : wrong) {
            CHECK.is("2 put(" + number + ")", x.put(number), BAD_VALUE);
        }
        CHECK.is("2 wrong numbers change nothing", x.count(1), 2);
    }

    private static void putEdges() {
        LinkAuditor x = new LinkAuditor();
        Check.type(x, "a".repeat(155));
        CHECK.is("2 put 6 to 155", x.put(Check.packed("bbbbbb")), TOO_MANY);
        CHECK.is("2 too many change nothing", x.count(1), 155);
        CHECK.is("2 put 5 to 155", x.put(Check.packed("bbbbb")), 160);
        CHECK.is("2 put 1 to 160", x.put('c'), TOO_MANY);
        CHECK.is("2 put nothing to 160", x.put(0), BAD_VALUE);
        CHECK.is("2 length", x.count(1), 160);
    }

    private static void wipe() {
        LinkAuditor x = new LinkAuditor();
        CHECK.is("3 wipe of the empty pad", x.wipe(), 0);
        Check.type(x, "abcdefghijk");
        CHECK.is("3 wipe", x.wipe(), 11);
        CHECK.is("3 length", x.count(1), 0);
        CHECK.is("3 wipe again", x.wipe(), 0);
        CHECK.is("3 no change to undo", x.count(6), 0);
    }

    /** Each row: a text, a bar, and its fault. */
    private static void faults(int as, String... rows) {
        LinkAuditor x = new LinkAuditor();
        for (String row : rows) {
            String[] parts = row.split("\\|");
            String text = parts[0];
            int due = parts[1].equals("ok") ? NONE : Integer.parseInt(parts[1]);
            CHECK.is("4 fault(" + as + ") of " + text, Check.fault(x, text, as), due);
            CHECK.is("4 the pad stays", x.count(1), text.length());
        }
    }

    private static void faultOfNamesAndHeadings() {
        faults(0, "|0", "a|ok", "A|0", "1|0", ";|0", ",|0", "~|0", "]|0", "abcdefgh|ok", "abcdefghi|8", "a2345678|ok",
            "a23456789|8", "a,|2", "a;|2", "a;;b|2", "a,,b|2", "a,b;c|ok", "a,=b|2", "a,{A}|2", "a=b|1", "aB|1",
            "a-1|1", "a0,b|ok", "a,0|2", "=|1", "==|2", "===|3", "=a|ok", "==a|ok", "===a|ok", "====a|3", "=A|1",
            "=1|1", "=a,b|2", "=a-1|2", "=a=b|2", "=abcdefgh|ok", "=abcdefghi|9", "=a;=b;c|ok", "=a;|3", "=;a|1");
    }

    private static void faultOfIncludes() {
        faults(0, "{A}|ok", "{L}|ok", "{M}|1", "{a}|1", "{|1", "{A|2", "{A+|3", "{A+2|4", "{A+0}|ok", "{A+1}|ok",
            "{A+2}|ok", "{A+3}|3", "{A+12}|4", "{A+}|3", "{A},|3", "{A}a|3", "{A};{B+0}|ok", "{A-1}|2", "{}|1",
            "{AB}|2", "{A#a}|2", "{A}}|3");
    }

    private static void faultOfLinks() {
        faults(0, "[A]|ok", "[L]|ok", "[#a]|ok", "[A#a]|ok", "[A#a-1]|ok", "[A#a-10]|ok", "[A#a-99]|ok", "[A#a-0]|5",
            "[A#a-01]|5", "[A#a-100]|7", "[A#a-]|5", "[A#a--1]|5", "[A#]|3", "[A#1]|3", "[]|1", "[|1", "[M]|1",
            "[a]|1", "[AB]|2", "[A|2", "[A#|3", "[A#a|4", "[A#a-|5", "[A#a-1|6", "[A]a|3", "[A],[B]|ok", "[A][B]|3",
            "[A];[B]|ok", "[#abcdefgh-12]|ok", "[#abcdefghi]|10", "[A+1]|2", "[#A]|2", "[##a]|2", "[#a-1-1]|5",
            "[A>B]|2", "x,[A],y|ok", "[A],|4", "[A]]|3");
    }

    private static void faultOfRedirects() {
        faults(1, "|0", "A>B|ok", "A>A|ok", "A#a>B|ok", "A>B#a-1|ok", "A#a-12>L#zz-90|ok", "A|1", "A>|2", ">|0",
            "A>B>|3", "A>B;|3", "M>A|0", "A>M|2", "#a>B|0", "A#>B|2", "A#a-0>B|4", "A#a->B|4", "A>#a|2",
            "A#abcdefgh>B|ok", "A#abcdefghi>B|10", "A>B#|4", "A>B#a-|6", "A>B#a-1|ok", "A>B#a-123|8", "[A]|0",
            "A>B]|3", "A>>B|2", "A#a-1|5", "A#a|3", "A#|2", "a>B|0", "AB>C|1");
    }

    private static void faultEdges() {
        LinkAuditor x = new LinkAuditor();
        for (int as : new int[] {-1, 2, 3, Integer.MAX_VALUE, Integer.MIN_VALUE}) {
            CHECK.is("4 fault(" + as + ")", x.fault(as), BAD_VALUE);
        }
        CHECK.is("4 fault at the end of a full pad", Check.fault(x, "a;".repeat(80), 0), 160);
        CHECK.is("4 fault of 80 elements", Check.fault(x, "a,".repeat(80), 0), 160);
        CHECK.is("4 fault at the last character", Check.fault(x, "a;".repeat(79) + "bA", 0), 159);
        CHECK.is("4 a full pad", Check.fault(x, "a;".repeat(79) + "bb", 0), NONE);
        CHECK.is("4 a page as a redirect", Check.fault(x, "a", 1), 0);
        CHECK.is("4 a redirect as a page", Check.fault(x, "A>B", 0), 0);
    }
}
