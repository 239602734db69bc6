/** The boundaries that the document names for the pad and for reading it: promises 1 to 4, and the grammar. */
public final class PadBoundsTest {
    private static final Check CHECK = new Check();
    private static final int BAD_VALUE = -2, TOO_MANY = -4, NONE = -6;

    private static final String SMALL = "abcdefghijklmnopqrstuvwxyz";
    private static final String DIGITS = "0123456789";
    private static final String LETTERS = "ABCDEFGHIJKL";
    private static final String NAME_GOES_ON = SMALL + DIGITS;
    private static final String LINE_BEGINS = "={[" + SMALL;

    public static void main(String[] args) {
        newObject();
        codes();
        eightBitsThatAreZero();
        noCharacter();
        lengthOfThePad();
        wrongNumbersComeBeforeTheLength();
        wipe();
        faultAs();
        faultOfTheEmptyPad();
        faultAtTheEndOfAFullPad();
        linesAndHeadings();
        includes();
        names();
        links();
        redirectsFrom();
        redirectsTo();
        CHECK.end("PadBoundsTest");
    }

    /** "Creates a checker without sources, redirects and memory"; "the pad is ... empty at first". */
    private static void newObject() {
        LinkAuditor x = new LinkAuditor();
        for (int what = 0; what <= 6; what++) {
            CHECK.is("1 count(" + what + ")", x.count(what), 0);
        }
        for (int what = 0; what <= 4; what++) {
            CHECK.is("1 tally(" + what + ")", x.tally(what), 0);
        }
        for (int page = 0; page < 12; page++) {
            CHECK.is("1 character", x.character(page, -1), -5);
            CHECK.is("1 remove", x.remove(page), -5);
            CHECK.is("1 heading", x.heading(page, 0, 0), -1);
            CHECK.is("1 section", x.section(page, 0, 0), -1);
            CHECK.is("1 link", x.link(page, 0, 0), -1);
            CHECK.is("1 reach", x.reach(page, 0), 1 << page);
            CHECK.is("1 not reached", x.reach(page, 1), 0);
        }
        CHECK.is("1 memory(-1, 0)", x.memory(-1, 0), 0);
        CHECK.is("1 memory(0, 0)", x.memory(0, 0), NONE);
        CHECK.is("1 unredirect", x.unredirect(0), -1);
        CHECK.is("1 redirection", x.redirection(0, 0), -1);
        CHECK.is("1 cycles", x.cycles(), 0);
        CHECK.is("1 mendAll", x.mendAll(), 0);
        CHECK.is("1 undo", x.undo(), -5);
        CHECK.is("1 wipe", x.wipe(), 0);
    }

    /** "codes from 33 to 126", at each place of a number of each length. */
    private static void codes() {
        Refusals empty = new Refusals(CHECK, "2 at the empty pad", new Run());
        Refusals some = new Refusals(CHECK, "2 behind =a;", new Run().typed("=a;"));
        for (int length = 1; length <= 8; length++) {
            for (int place = 0; place < length; place++) {
                for (int code : new int[] {33, 126}) {
                    long number = withCode(length, place, code);
                    CHECK.is("2 " + Long.toHexString(number), new LinkAuditor().put(number), length);
                }
                for (int code : new int[] {1, 32, 127, 128, 255}) {
                    long number = withCode(length, place, code);
                    empty.refused("put " + Long.toHexString(number), BAD_VALUE, x -> x.put(number));
                    some.refused("put " + Long.toHexString(number), BAD_VALUE, x -> x.put(number));
                }
            }
        }
    }

    /** A number of as many letters a, but for one place, counted from the last one. */
    private static long withCode(int length, int place, int code) {
        long number = Check.packed("a".repeat(length));
        return number & ~(255L << 8 * place) | (long) code << 8 * place;
    }

    /** "8 bits that are 0 mean that there are no more characters, and everything above them has to be 0, too." */
    private static void eightBitsThatAreZero() {
        Refusals some = new Refusals(CHECK, "2 behind a", new Run().typed("a"));
        for (int length = 1; length <= 8; length++) {
            for (int place = 0; place < length; place++) {
                long number = withCode(length, place, 0);
                if (place < length - 1) {
                    some.refused("put " + Long.toHexString(number), BAD_VALUE, x -> x.put(number));
                } else if (length > 1) {
                    CHECK.is("2 put " + Long.toHexString(number), new LinkAuditor().put(number), length - 1);
                }
            }
        }
        // The lowest and the highest bit above the 8 bits that are 0.
        for (long number : new long[] {0x10061L, 1L << 56 | 'a', Long.MIN_VALUE | 'a', 0x0100000000000000L}) {
            some.refused("put " + Long.toHexString(number), BAD_VALUE, x -> x.put(number));
        }
    }

    /** "BAD_VALUE if there is no character". */
    private static void noCharacter() {
        new Refusals(CHECK, "2 empty", new Run()).refused("put 0", BAD_VALUE, x -> x.put(0));
        Run full = new Run().typed("a;".repeat(80));
        Refusals atTheEnd = new Refusals(CHECK, "2 full", full);
        atTheEnd.refused("put 0", BAD_VALUE, x -> x.put(0));
        atTheEnd.refused("put -1", BAD_VALUE, x -> x.put(-1));
        atTheEnd.refused("put the least number", BAD_VALUE, x -> x.put(Long.MIN_VALUE));
        atTheEnd.refused("put the greatest number", BAD_VALUE, x -> x.put(Long.MAX_VALUE));
    }

    /** "TOO_MANY if the pad would be longer than 160." */
    private static void lengthOfThePad() {
        for (int length = 1; length <= 8; length++) {
            long number = Check.packed("bcdefghi".substring(0, length));
            String before = "a,".repeat(80).substring(0, 160 - length);
            LinkAuditor x = new Run().typed(before).made();
            CHECK.is("2 " + length + " characters to " + before.length(), x.put(number), 160);
            CHECK.is("2 the length", x.count(1), 160);
            Run oneMore = new Run().typed(before + "a");
            Refusals longer = new Refusals(CHECK, "2 at " + (161 - length), oneMore);
            longer.refused("put " + length, TOO_MANY, y -> y.put(number));
            Refusals full = new Refusals(CHECK, "2 at 160", new Run().typed("a,".repeat(79) + "bc"));
            full.refused("put " + length, TOO_MANY, y -> y.put(number));
        }
        LinkAuditor x = new Run().typed("a,".repeat(79) + "b").made();
        CHECK.is("2 159", x.count(1), 159);
        CHECK.is("2 two are refused at 159", x.put(Check.packed("cd")), TOO_MANY);
        CHECK.is("2 one is taken at 159", x.put('e'), 160);
        CHECK.is("2 one is refused at 160", x.put('f'), TOO_MANY);
        CHECK.is("2 it can be loaded", x.load(0), 1);
        CHECK.same("2 all 160", Check.source(x, 'A'), "a,".repeat(79) + "be");
        CHECK.is("2 there is room again", x.put('f'), 1);
    }

    /** Errors "in the order in which they are checked": BAD_VALUE, then TOO_MANY. */
    private static void wrongNumbersComeBeforeTheLength() {
        Refusals full = new Refusals(CHECK, "2 at 160", new Run().typed("a;".repeat(79) + "bc"));
        for (long number : new long[] {0, 32, 127, 0x6100, 0x610061, 0x2061616161616161L, 0x7f61616161616161L}) {
            full.refused("put " + Long.toHexString(number), BAD_VALUE, x -> x.put(number));
        }
    }

    /** "Empties the pad, and returns the length that it had." */
    private static void wipe() {
        for (int length : new int[] {0, 1, 8, 9, 159, 160}) {
            LinkAuditor x = new Run().typed("a".repeat(length)).made();
            CHECK.is("3 wipe at " + length, x.wipe(), length);
            CHECK.is("3 the length then", x.count(1), 0);
            CHECK.is("3 wipe again", x.wipe(), 0);
            Check.type(x, "b".repeat(160));
            CHECK.is("3 the whole pad is free", x.count(1), 160);
        }
        Run run = new Run().loaded('A', "=a;[B]").redirected("B>C").typed("rest");
        LinkAuditor x = run.and("wipe", LinkAuditor::wipe).typed("=new").made();
        CHECK.is("3 what is typed behind", x.load(1), 1);
        CHECK.same("3 nothing of the rest", Check.source(x, 'B'), "=new");
        CHECK.is("3 no change to undo", run.and("wipe", LinkAuditor::wipe).made().count(6), 2);
    }

    /** "BAD_VALUE if as is neither 0 nor 1", also if the pad has no fault. */
    private static void faultAs() {
        for (String pad : new String[] {"", "a", "A>B", "a;", "A>"}) {
            Refusals refusals = new Refusals(CHECK, "4 pad " + pad, new Run().typed(pad));
            for (int as : new int[] {-1, 2, 3, 256, Integer.MIN_VALUE, Integer.MAX_VALUE}) {
                refusals.refused("fault(" + as + ")", BAD_VALUE, x -> x.fault(as));
            }
        }
        Refusals page = new Refusals(CHECK, "4 a page", new Run().typed("=a;b"));
        page.refused("fault(0)", NONE, x -> x.fault(0));
        page.refused("fault(1)", 0, x -> x.fault(1));
        Refusals redirect = new Refusals(CHECK, "4 a redirect", new Run().typed("A>B"));
        redirect.refused("fault(0)", 0, x -> x.fault(0));
        redirect.refused("fault(1)", NONE, x -> x.fault(1));
    }

    /** "if there is none and the text ends too early (also if it is empty), it is the length of the text". */
    private static void faultOfTheEmptyPad() {
        LinkAuditor x = new LinkAuditor();
        CHECK.is("4 as a page", x.fault(0), 0);
        CHECK.is("4 as a redirect", x.fault(1), 0);
        x.put('a');
        x.wipe();
        CHECK.is("4 a wiped one as a page", x.fault(0), 0);
        CHECK.is("4 a wiped one as a redirect", x.fault(1), 0);
    }

    /** The fault as the length 160, as the last index 159, and none. */
    private static void faultAtTheEndOfAFullPad() {
        String most = "a;".repeat(75) + "abcdefg";
        faultOf(most + ";=a", 0, NONE);
        faultOf(most + ";==", 0, 160);
        faultOf(most + ";=A", 0, 159);
        faultOf(most + ";{A", 0, 160);
        faultOf(most + ",[A", 0, 160);
        faultOf(most + ",[a", 0, 159);
        faultOf(most + "hi;", 0, 158);
        faultOf(most + "h;i", 0, NONE);
        faultOf("[A],".repeat(39) + "[#a]", 0, NONE);
        faultOf("[A],".repeat(39) + "[#a-", 0, 160);
        faultOf("[A],".repeat(40), 0, 160);
        faultOf("{A};".repeat(40), 0, 160);
        faultOf("=a;".repeat(53) + "b", 0, NONE);
        faultOf("=a;".repeat(53) + "=", 0, 160);
        // The longest redirect has 27 characters.
        faultOf("A#abcdefgh-12>B#abcdefgh-12", 1, NONE);
        faultOf("A#abcdefgh-12>B#abcdefgh-123", 1, 27);
    }

    private static void faultOf(String text, int as, int due) {
        CHECK.is("4 fault(" + as + ") of " + text, Check.fault(new LinkAuditor(), text, as), due);
    }

    /**
     * Tries every character from 33 to 126 behind a text: those that can stand there, and no others,
     * do not make its index the fault; and whether the text may end there.
     */
    private static void goesOn(int as, String text, String signs, boolean ends) {
        LinkAuditor x = new LinkAuditor();
        CHECK.is("4 the end of " + text, Check.fault(x, text, as), ends ? NONE : text.length());
        int calls = 5;
        for (char sign = 33; sign <= 126; sign++) {
            if (calls + 6 > Run.CALLS_MOST) {
                x = new LinkAuditor();
                calls = 0;
            }
            int fault = Check.fault(x, text + sign, as);
            calls += 6;
            if (signs.indexOf(sign) < 0) {
                CHECK.is("4 fault(" + as + ") of " + text + sign, fault, text.length());
            } else {
                boolean fine = fault == NONE || fault == text.length() + 1;
                CHECK.is("4 fault(" + as + ") of " + text + sign + " is " + fault + ", fine", fine ? 1 : 0, 1);
            }
        }
    }

    /** "page = line { ";" line }", "heading = "=" [ "=" [ "=" ] ] name". */
    private static void linesAndHeadings() {
        for (String before : new String[] {"", "a;", "=a;", "{A};", "{A+1};", "[A];", "a,b;", "a;b;"}) {
            goesOn(0, before, LINE_BEGINS, false);
            goesOn(0, before + "=", "=" + SMALL, false);
            goesOn(0, before + "==", "=" + SMALL, false);
            goesOn(0, before + "===", SMALL, false);
            goesOn(0, before + "=a", NAME_GOES_ON + ";", true);
            goesOn(0, before + "==z", NAME_GOES_ON + ";", true);
            goesOn(0, before + "===m", NAME_GOES_ON + ";", true);
        }
    }

    /** "include = "{" letter [ "+" ( "0" | "1" | "2" ) ] "}"". */
    private static void includes() {
        for (String before : new String[] {"", "a;"}) {
            goesOn(0, before + "{", LETTERS, false);
            for (char letter : LETTERS.toCharArray()) {
                goesOn(0, before + "{" + letter, "+}", false);
            }
            goesOn(0, before + "{A+", "012", false);
            for (char plus : "012".toCharArray()) {
                goesOn(0, before + "{A+" + plus, "}", false);
                goesOn(0, before + "{A+" + plus + "}", ";", true);
            }
            goesOn(0, before + "{L}", ";", true);
        }
    }

    /** "a small letter a to z, and up to 7 small letters or digits behind it"; "its ninth ... cannot stand". */
    private static void names() {
        for (int length = 1; length <= 8; length++) {
            String more = length < 8 ? NAME_GOES_ON : "";
            for (String name : new String[] {"abcdefgh", "z0000000", "a9999999", "zzzzzzzz"}) {
                String cut = name.substring(0, length);
                goesOn(0, cut, more + ",;", true);
                goesOn(0, "=" + cut, more + ";", true);
                goesOn(0, "===" + cut, more + ";", true);
                goesOn(0, "x," + cut, more + ",;", true);
                goesOn(0, "[#" + cut, more + "-]", false);
                goesOn(0, "[L#" + cut, more + "-]", false);
                goesOn(1, "A#" + cut, more + "->", false);
                goesOn(1, "A>B#" + cut, more + "-", true);
            }
        }
    }

    /** "element = name | "[" target "]"", "target", "anchor" and "number". */
    private static void links() {
        for (String before : new String[] {"", "a,", "[B],", "=a;"}) {
            goesOn(0, before + "[", LETTERS + "#", false);
            for (char letter : LETTERS.toCharArray()) {
                goesOn(0, before + "[" + letter, "#]", false);
            }
            for (String target : new String[] {"A#", "#"}) {
                goesOn(0, before + "[" + target, SMALL, false);
                goesOn(0, before + "[" + target + "a", NAME_GOES_ON + "-]", false);
                goesOn(0, before + "[" + target + "a-", "123456789", false);
                goesOn(0, before + "[" + target + "a-1", DIGITS + "]", false);
                goesOn(0, before + "[" + target + "a-9", DIGITS + "]", false);
                goesOn(0, before + "[" + target + "a-10", "]", false);
                goesOn(0, before + "[" + target + "a-99", "]", false);
                goesOn(0, before + "[" + target + "a-9]", ",;", true);
            }
            goesOn(0, before + "[A]", ",;", true);
        }
        goesOn(0, "a,", SMALL + "[", false);
        goesOn(0, "[A],", SMALL + "[", false);
    }

    /** "redirect = letter [ "#" anchor ] ">" letter [ "#" anchor ]", up to the sign >. */
    private static void redirectsFrom() {
        goesOn(1, "", LETTERS, false);
        for (char letter : LETTERS.toCharArray()) {
            goesOn(1, "" + letter, "#>", false);
        }
        goesOn(1, "A#", SMALL, false);
        goesOn(1, "A#a-", "123456789", false);
        goesOn(1, "A#a-1", DIGITS + ">", false);
        goesOn(1, "A#a-9", DIGITS + ">", false);
        goesOn(1, "A#a-10", ">", false);
        goesOn(1, "A#a-99", ">", false);
    }

    private static void redirectsTo() {
        for (String from : new String[] {"A", "L", "A#a", "A#a-1", "A#a-99"}) {
            goesOn(1, from + ">", LETTERS, false);
            for (char letter : LETTERS.toCharArray()) {
                goesOn(1, from + ">" + letter, "#", true);
            }
            goesOn(1, from + ">B#", SMALL, false);
            goesOn(1, from + ">B#a", NAME_GOES_ON + "-", true);
            goesOn(1, from + ">B#a-", "123456789", false);
            goesOn(1, from + ">B#a-1", DIGITS, true);
            goesOn(1, from + ">B#a-9", DIGITS, true);
            goesOn(1, from + ">B#a-10", "", true);
            goesOn(1, from + ">B#a-99", "", true);
        }
    }
}
