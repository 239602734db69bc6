/** The boundaries of sections, cycles and the memory: promises 11, 12 and 19, and the terms for them. */
public final class SectionBoundsTest {
    private static final Check CHECK = new Check();
    private static final int NO_SUCH = -1, BAD_VALUE = -2, NONE = -6;

    public static void main(String[] args) {
        linesOfSections();
        sectionErrors();
        emptySections();
        digestsAtTheModulus();
        sectionsWithoutAnchor();
        cycles();
        cyclesByPagesWithoutSource();
        whatIsRemembered();
        whenNothingIsRemembered();
        theSamePlaceIsRemovedFirst();
        fortyEntries();
        fortyEntriesAndTheSamePlace();
        moreSectionsThanEntries();
        memoryErrors();
        sectionsWithThisDigestNow();
        CHECK.end("SectionBoundsTest");
    }

    private static String lines(String line, int times) {
        return (line + ";").repeat(times - 1) + line;
    }

    private static void section(LinkAuditor x, char page, int section, String lines, int heading) {
        String call = "11 section(" + page + ", " + section + ", ";
        int count = 0;
        for (char sign : lines.toCharArray()) {
            count += sign == ';' ? 1 : 0;
        }
        CHECK.is(call + "0)", x.section(page - 'A', section, 0), Digests.of(lines));
        CHECK.is(call + "1)", x.section(page - 'A', section, 1), heading);
        CHECK.is(call + "2)", x.section(page - 'A', section, 2), count);
    }

    private static void entry(LinkAuditor x, int entry, int page, int length, int digest) {
        CHECK.is("19 memory(" + entry + ", 0)", x.memory(entry, 0), page);
        CHECK.is("19 memory(" + entry + ", 1)", x.memory(entry, 1), digest);
        CHECK.is("19 memory(" + entry + ", 2)", x.memory(entry, 2), length);
    }

    /** "begins with a heading of its own source and contains the lines ... up to the next heading of its own source". */
    private static void linesOfSections() {
        LinkAuditor x = new Run().loaded('B', "=b;p;=c").loaded('A', "o;{B};=a;q;{B+1};r,[A];==d;===e;s").made();
        CHECK.is("8 sections", x.about(0, 3), 3);
        CHECK.is("8 headings", x.about(0, 2), 7);
        section(x, 'A', 0, ";q;{B+1};r,[A]", 2);
        section(x, 'A', 1, "", 5);
        section(x, 'A', 2, ";s", 6);
        section(x, 'B', 0, ";p", 0);
        section(x, 'B', 1, "", 1);
        x = new Run().loaded('A', "p;q;{L}").made();
        CHECK.is("8 lines without a heading are in no section", x.about(0, 3), 0);
        x = new Run().loaded('A', "=a;" + lines("p", 78)).made();
        section(x, 'A', 0, (";p").repeat(78), 0);
    }

    /** section: NO_SUCH "if there is no such page or section" before BAD_VALUE; what from 0 to 2. */
    private static void sectionErrors() {
        Run run = new Run().loaded('A', "=a;p;=b;=c;q").loaded('B', "{A}").typed("z");
        Refusals refusals = new Refusals(CHECK, "11", run);
        int[][] sections = {{-1, 0}, {12, 0}, {32, 0}, {Integer.MIN_VALUE, 0}, {Integer.MAX_VALUE, 0}, {0, -1}, {0, 3},
            {0, 53}, {0, Integer.MIN_VALUE}, {0, Integer.MAX_VALUE}, {1, 0}, {2, 0}, {11, 0}};
        for (int[] pair : sections) {
            for (int what : new int[] {-1, 0, 2, 3}) {
                String call = "section(" + pair[0] + ", " + pair[1] + ", " + what + ")";
                refusals.refused(call, NO_SUCH, x -> x.section(pair[0], pair[1], what));
            }
        }
        for (int what : new int[] {-1, 3, 4, Integer.MIN_VALUE, Integer.MAX_VALUE}) {
            refusals.refused("section(0, 0, " + what + ")", BAD_VALUE, x -> x.section(0, 0, what));
            refusals.refused("section(0, 2, " + what + ")", BAD_VALUE, x -> x.section(0, 2, what));
        }
        section(run.made(), 'A', 2, ";q", 2);
    }

    /** "a section without further lines has the digest 7; it is empty": at the end, between, and alone. */
    private static void emptySections() {
        LinkAuditor x = new Run().loaded('A', "=a;=b;p;=c").made();
        section(x, 'A', 0, "", 0);
        section(x, 'A', 1, ";p", 1);
        section(x, 'A', 2, "", 2);
        CHECK.is("11 the digest", x.section(0, 0, 0), 7);
        x.remove(0);
        CHECK.is("19 only b is remembered", x.memory(-1, 0), 1);
        entry(x, 0, 0, 1, Digests.of(";p"));
        // One that has a line is not empty, though its digest is 7, too.
        String seven = Digests.with(7);
        x = new Run().loaded('A', "=aa" + seven + ";=b").made();
        CHECK.is("11 the digest of " + seven, x.section(0, 0, 0), 7);
        x.remove(0);
        CHECK.is("19 it is remembered", x.memory(-1, 0), 1);
        entry(x, 0, 0, 2, 7);
    }

    /** "it becomes (31 * digest + code) % 1000003": the greatest digest, 0, and what goes on from them. */
    private static void digestsAtTheModulus() {
        for (int digest : new int[] {0, 1, 1000001, 1000002}) {
            String line = Digests.with(digest);
            LinkAuditor x = new Run().loaded('A', "=a" + line + ";=b" + line + ";z").made();
            CHECK.is("11 the digest of " + line, x.section(0, 0, 0), digest);
            CHECK.is("11 with a line more", x.section(0, 1, 0), Digests.of(line + ";z"));
            x.remove(0);
            CHECK.is("19 remembered", x.memory(0, 1), digest);
        }
        LinkAuditor x = new Run().loaded('A', "=a;" + lines("z", 78)).made();
        CHECK.is("11 a long one", x.section(0, 0, 0), Digests.of(";z".repeat(78)));
    }

    /** "if its heading was left out there, it has none": the 100th line has one, the 101st none. */
    private static void sectionsWithoutAnchor() {
        Run run = new Run().loaded('B', lines("b", 48)).loaded('A', "{B};{B};=c;p;=d;q;=e;r;=f;s");
        LinkAuditor x = run.made();
        section(x, 'A', 0, ";p", 0);
        section(x, 'A', 1, ";q", 1);
        section(x, 'A', 2, ";r", NONE);
        section(x, 'A', 3, ";s", NONE);
        CHECK.is("8 lines", x.about(0, 1), 100);
        x.remove(0);
        CHECK.is("19 two are remembered", x.memory(-1, 0), 2);
        entry(x, 0, 0, 1, Digests.of(";p"));
        entry(x, 1, 0, 1, Digests.of(";q"));
        // Its line may be left out, and the section is not empty nevertheless.
        x = run.loaded('B', lines("b", 50)).loaded('B', lines("b", 48) + ";b").loaded('A', "{B};{B};p;=z;q").made();
        section(x, 'A', 0, ";q", 0);
        CHECK.is("8 lines", x.about(0, 1), 100);
        int before = x.memory(-1, 0);
        x.remove(0);
        CHECK.is("19 it is remembered", x.memory(-1, 0), before + 1);
        entry(x, before, 0, 1, Digests.of(";q"));
    }

    /** "pages with a source that include themselves, directly or by way of pages with a source". */
    private static void cycles() {
        LinkAuditor x = new LinkAuditor();
        CHECK.is("12 none", x.cycles(), 0);
        Check.load(x, 'A', "{A}");
        CHECK.is("12 the first page", x.cycles(), 1);
        Check.load(x, 'L', "p;{L+2}");
        CHECK.is("12 the last page", x.cycles(), 1 | 1 << 11);
        Check.load(x, 'A', "{L}");
        CHECK.is("12 a page that includes one in a cycle", x.cycles(), 1 << 11);
        Check.load(x, 'L', "{B};{K}");
        Check.load(x, 'K', "=k;{A}");
        CHECK.is("12 three pages", x.cycles(), 1 | 1 << 10 | 1 << 11);
        // The include stands behind the 100th line of the expansion, and counts nevertheless.
        x = new Run().loaded('B', lines("b", 80)).loaded('A', "{B};{B};{C}").loaded('C', "{A}").made();
        CHECK.is("12 behind the 100th line", x.cycles(), 1 | 4);
        // Eleven and twelve steps, against and along the order of the pages.
        for (int last = 10; last <= 11; last++) {
            Run up = new Run();
            Run down = new Run();
            for (int page = 0; page <= last; page++) {
                up = up.loaded((char) ('A' + page), "{" + (char) ('A' + (page + 1) % (last + 1)) + "}");
                down = down.loaded((char) ('A' + page), "{" + (char) ('A' + (page + last) % (last + 1)) + "}");
            }
            CHECK.is("12 up", up.made().cycles(), (1 << last + 1) - 1);
            CHECK.is("12 down", down.made().cycles(), (1 << last + 1) - 1);
            CHECK.is("12 up, without one", up.removed('F').made().cycles(), 0);
            CHECK.is("12 down, without the first", down.removed('A').made().cycles(), 0);
        }
    }

    /** A page without a source is in no cycle, and no cycle goes by way of it. */
    private static void cyclesByPagesWithoutSource() {
        LinkAuditor x = new Run().loaded('A', "{B}").made();
        CHECK.is("12 B has no source", x.cycles(), 0);
        Check.load(x, 'B', "{A}");
        CHECK.is("12 B has one", x.cycles(), 3);
        x.remove(0);
        CHECK.is("12 A has none", x.cycles(), 0);
        x.undo();
        CHECK.is("12 A has one again", x.cycles(), 3);
        Check.load(x, 'B', "[A],[A#a];p");
        CHECK.is("12 links are no includes", x.cycles(), 0);
    }

    /** "each of its sections that has an anchor and is not empty is remembered with the page, the anchor and the digest". */
    private static void whatIsRemembered() {
        Run run = new Run().loaded('B', "=a").loaded('A', "o;{B};=a;p;=a;=b;q;r;=abcdefgh;[A]");
        LinkAuditor x = run.loaded('A', "z").made();
        CHECK.is("19 three", x.memory(-1, 0), 3);
        entry(x, 0, 0, 3, Digests.of(";p"));
        entry(x, 1, 0, 1, Digests.of(";q;r"));
        entry(x, 2, 0, 8, Digests.of(";[A]"));
        // Of the state before: the anchor by the include as it was, the digest as it was.
        x = run.loaded('B', "b").removed('A').made();
        entry(x, 0, 0, 1, Digests.of(";p"));
        x = run.loaded('A', "=a;s").loaded('A', "=a;t").made();
        CHECK.is("19 a-1, b, abcdefgh and a", x.memory(-1, 0), 4);
        entry(x, 3, 0, 1, Digests.of(";s"));
        // The last page, and the longest anchor.
        x = new Run().loaded('L', lines("=abcdefgh", 11) + ";p").removed('L').made();
        CHECK.is("19 the last of eleven", x.memory(-1, 0), 1);
        entry(x, 0, 11, 11, Digests.of(";p"));
    }

    /** "whenever the source of a page is replaced or removed", and not otherwise. */
    private static void whenNothingIsRemembered() {
        Run run = new Run().loaded('A', "=a;p,[B];=b;[C]");
        CHECK.is("19 the first source replaces none", run.made().memory(-1, 0), 0);
        CHECK.is("19 another page", run.loaded('B', "=a;p").made().memory(-1, 0), 0);
        CHECK.is("19 a redirect", run.redirected("B>A").made().memory(-1, 0), 0);
        CHECK.is("19 mend", run.and("mend", x -> x.mend(0, 0)).made().memory(-1, 0), 0);
        CHECK.is("19 mendAll", run.and("mendAll", LinkAuditor::mendAll).made().memory(-1, 0), 0);
        Run redirected = run.redirected("B>A").and("straighten", x -> x.straighten(0, 0));
        CHECK.is("19 straighten", redirected.answer(), 15);
        CHECK.is("19 straighten", redirected.made().memory(-1, 0), 0);
        CHECK.is("19 undo", run.undone(1).made().memory(-1, 0), 0);
        CHECK.is("19 a load that is refused", run.typed("a;").and("load", x -> x.load(0)).made().memory(-1, 0), 0);
        CHECK.is("19 the same source again", run.loaded('A', "=a;p,[B];=b;[C]").made().memory(-1, 0), 2);
        CHECK.is("19 remove", run.removed('A').made().memory(-1, 0), 2);
        CHECK.is("19 a source behind remove replaces none", run.removed('A').loaded('A', "=c;d").made().memory(-1, 0), 2);
    }

    /** "in their order; an entry with the same page and anchor is removed first". */
    private static void theSamePlaceIsRemovedFirst() {
        Run run = new Run().loaded('A', "=a;p;=bb;q;=ccc;r").removed('A').loaded('B', "=a;s").removed('B');
        LinkAuditor x = run.loaded('A', "=bb;t;=bb;u").removed('A').made();
        CHECK.is("19 entries", x.memory(-1, 0), 5);
        entry(x, 0, 0, 1, Digests.of(";p"));
        entry(x, 1, 0, 3, Digests.of(";r"));
        entry(x, 2, 1, 1, Digests.of(";s"));
        entry(x, 3, 0, 2, Digests.of(";t"));
        entry(x, 4, 0, 4, Digests.of(";u"));
        // The first and the last entry again; and an empty section leaves the old entry.
        x = run.loaded('A', "=a;v;=bb").removed('A').made();
        CHECK.is("19 entries", x.memory(-1, 0), 4);
        entry(x, 0, 0, 2, Digests.of(";q"));
        entry(x, 3, 0, 1, Digests.of(";v"));
        x = run.loaded('B', "=a;w").removed('B').made();
        CHECK.is("19 entries", x.memory(-1, 0), 4);
        entry(x, 3, 1, 1, Digests.of(";w"));
        // The same anchor of a page before or behind it is another place.
        x = new Run().loaded('B', "=a;p").removed('B').loaded('A', "=a;q").removed('A').loaded('C', "=a;r").removed('C').made();
        CHECK.is("19 entries", x.memory(-1, 0), 3);
        entry(x, 0, 1, 1, Digests.of(";p"));
        entry(x, 1, 0, 1, Digests.of(";q"));
        entry(x, 2, 2, 1, Digests.of(";r"));
        // And so is the same name with a number, with another one, or with a digit.
        x = new Run().loaded('A', "=a;p;=a;q;=a;r;=a1;s").removed('A').loaded('A', "=a1;t;=a;u").removed('A').made();
        CHECK.is("19 entries", x.memory(-1, 0), 4);
        entry(x, 0, 0, 3, Digests.of(";q"));
        entry(x, 1, 0, 3, Digests.of(";r"));
        entry(x, 2, 0, 2, Digests.of(";t"));
        entry(x, 3, 0, 1, Digests.of(";u"));
    }

    /** Remembers one section of A by two calls: of the name n and a number. */
    private static Run remembered(Run run, int first, int last) {
        Run longer = run;
        for (int number = first; number <= last; number += 10) {
            StringBuilder source = new StringBuilder();
            for (int next = number; next <= Math.min(number + 9, last); next++) {
                source.append(next == number ? "" : ";").append("=n").append(100 + next).append(";p").append(next);
            }
            longer = longer.loaded('A', source.toString()).removed('A');
        }
        return longer;
    }

    /** "At most 40 entries are kept; the oldest one goes if there are more." */
    private static void fortyEntries() {
        for (int last = 38; last <= 43; last++) {
            LinkAuditor x = remembered(new Run(), 0, last).made();
            int kept = Math.min(last + 1, 40);
            CHECK.is("19 kept of " + (last + 1), x.memory(-1, 0), kept);
            CHECK.is("25 the same", x.count(3), kept);
            entry(x, 0, 0, 4, Digests.of(";p" + (last + 1 - kept)));
            entry(x, kept - 1, 0, 4, Digests.of(";p" + last));
            CHECK.is("19 none behind", x.memory(kept, 0), NONE);
            for (int entry = 0; entry < kept; entry++) {
                CHECK.is("19 entry " + entry, x.memory(entry, 1), Digests.of(";p" + (last + 1 - kept + entry)));
            }
        }
    }

    /** With 40 entries, one with the same page and anchor makes room, so that the oldest one stays. */
    private static void fortyEntriesAndTheSamePlace() {
        Run full = remembered(new Run(), 0, 39);
        int[] again = {0, 1, 20, 39};
        for (int number : again) {
            LinkAuditor x = full.loaded('A', "=n" + (100 + number) + ";z").removed('A').made();
            CHECK.is("19 still 40", x.memory(-1, 0), 40);
            CHECK.is("19 the oldest", x.memory(0, 1), Digests.of(number == 0 ? ";p1" : ";p0"));
            entry(x, 39, 0, 4, Digests.of(";z"));
        }
        LinkAuditor x = full.loaded('B', "=n100;z").removed('B').made();
        CHECK.is("19 another page is another place", x.memory(-1, 0), 40);
        CHECK.is("19 the oldest goes", x.memory(0, 1), Digests.of(";p1"));
        // The oldest one goes for the first section, and would have been replaced by the second.
        x = full.loaded('A', "=new;y;=n100;z").removed('A').made();
        CHECK.is("19 still 40", x.memory(-1, 0), 40);
        CHECK.is("19 the oldest", x.memory(0, 1), Digests.of(";p2"));
        entry(x, 38, 0, 3, Digests.of(";y"));
        entry(x, 39, 0, 4, Digests.of(";z"));
        x.undo();
        CHECK.is("24 the oldest is back", x.memory(0, 1), Digests.of(";p0"));
    }

    /** A page cannot have 40 sections with lines, but two pages can: the newest ones stay. */
    private static void moreSectionsThanEntries() {
        LinkAuditor x = new Run().loaded('A', lines("=a;p", 32)).loaded('B', lines("=b;q", 32)).made();
        x.remove(0);
        CHECK.is("19 32", x.memory(-1, 0), 32);
        x.remove(1);
        CHECK.is("19 40 of 64", x.memory(-1, 0), 40);
        entry(x, 0, 0, 4, Digests.of(";p"));
        entry(x, 7, 0, 4, Digests.of(";p"));
        entry(x, 8, 1, 1, Digests.of(";q"));
        entry(x, 39, 1, 4, Digests.of(";q"));
    }

    /** "-1 for how many there are"; NONE "if there is no such entry"; BAD_VALUE before it. */
    private static void memoryErrors() {
        Run[] runs = {new Run(), new Run().loaded('A', "=a;p;=b;q").removed('A'), remembered(new Run(), 0, 40)};
        for (Run run : runs) {
            LinkAuditor x = run.made();
            int entries = x.memory(-1, 0);
            Refusals refusals = new Refusals(CHECK, "19 with " + entries, run);
            for (int what = 0; what <= 3; what++) {
                CHECK.is("19 memory(-1, " + what + ")", x.memory(-1, what), entries);
                for (int entry : new int[] {-2, entries, entries + 1, 41, Integer.MIN_VALUE, Integer.MAX_VALUE}) {
                    CHECK.is("19 memory(" + entry + ", " + what + ")", x.memory(entry, what), NONE);
                }
            }
            for (int what : new int[] {-1, 4, Integer.MIN_VALUE, Integer.MAX_VALUE}) {
                for (int entry : new int[] {-2, -1, 0, entries - 1, entries, Integer.MAX_VALUE}) {
                    String call = "memory(" + entry + ", " + what + ")";
                    refusals.refused(call, BAD_VALUE, y -> y.memory(entry, what));
                }
            }
        }
    }

    /** "how many sections of all pages have an anchor and this digest now". */
    private static void sectionsWithThisDigestNow() {
        Run run = new Run().loaded('A', "=a;p").removed('A');
        CHECK.is("19 none", run.made().memory(0, 3), 0);
        run = run.loaded('L', "=b;p;=c;p;=d;q;=e").loaded('B', lines("b", 50)).loaded('C', "{B};{B};=x;p");
        CHECK.is("19 two with an anchor, one without", run.made().memory(0, 3), 2);
        CHECK.is("19 the one has an anchor again", run.loaded('B', "b").made().memory(0, 3), 3);
        CHECK.is("19 included ones are no sections", run.loaded('D', "{L};{L}").made().memory(0, 3), 2);
        LinkAuditor x = run.removed('L').made();
        CHECK.is("19 none now", x.memory(0, 3), 0);
        // 53 sections in each of twelve pages would be too many characters; these are the most with a line.
        Run most = new Run().loaded('A', "=a;p").removed('A');
        for (char page = 'A'; page <= 'H'; page++) {
            most = most.loaded(page, lines("=a;p", 32));
        }
        CHECK.is("19 as many as eight pages hold", most.made().memory(0, 3), 256);
    }
}
