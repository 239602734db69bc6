/**
 * A checker for the links of a documentation of twelve pages. Every row that a call needs is made
 * with the object and used again, so that a long run of calls makes next to nothing new.
 */
public final class LinkAuditor {
    public static final int NO_SUCH = -1, BAD_VALUE = -2, BAD_TEXT = -3, TOO_MANY = -4, NOT_POSSIBLE = -5, NONE = -6;
    public static final int DIRECT = 0, REDIRECTED = 1, CIRCULAR = 2, LOST = 3, DANGLING = 4;

    private static final int PAGES = 12;
    private static final int TEXT_MOST = 160;
    private static final int REDIRECTS_MOST = 12;
    private static final int ENTRIES_MOST = 40;
    private static final int CHANGES_MOST = 10;
    private static final int EXPANDED_MOST = 100;
    private static final int REPLACED_MOST = 200;

    // The shortest line, heading and link are "a", "=a" and "[A]", each with a sign between two of them.
    private static final int LINES_MOST = (TEXT_MOST + 1) / 2;
    private static final int SECTIONS_MOST = (TEXT_MOST + 1) / 3;
    private static final int LINKS_MOST = (TEXT_MOST + 1) / 4;

    private static final int PARAGRAPH = 0;
    private static final int INCLUDE = -1;

    private static final int NAME_MOST = 8;
    private static final int ANCHOR_MOST = NAME_MOST + 3;
    private static final long NO_ANCHOR = 0L;

    // A way meets the anchor of its link, none, and those to which redirects lead, on each page;
    // one step more and it has been somewhere twice.
    private static final int STEPS_MOST = PAGES * (REDIRECTS_MOST + 2) + 1;

    private final char[] pad = new char[TEXT_MOST];
    private int padLength;
    private final Reader reader;
    private final Site site;
    private final Route route;
    private final Mender mender;
    private final State[] history = new State[CHANGES_MOST];
    private int changes;
    private final char[] spelling = new char[ANCHOR_MOST];

    /** Creates a checker without sources, redirects and memory. */
    public LinkAuditor() {
        padLength = 0;
        changes = 0;
        reader = new Reader();
        site = new Site();
        route = new Route(site);
        mender = new Mender(site);
    }

    // ---- the pad

    /** Appends 1 to 8 characters, the last one in the lowest 8 bits. */
    public int put(long characters) {
        int added = charactersIn(characters);
        if (added == 0) {
            return BAD_VALUE;
        }
        if (padLength + added > TEXT_MOST) {
            return TOO_MANY;
        }
        for (int left = added - 1; left >= 0; left--) {
            pad[padLength] = (char) (characters >>> 8 * left & 255);
            padLength++;
        }
        return padLength;
    }

    /** Empties the pad and returns the length that it had. */
    public int wipe() {
        int length = padLength;
        padLength = 0;
        return length;
    }

    /** Returns the fault of the pad, read as a page (0) or as a redirect (1). */
    public int fault(int as) {
        if (as != 0 && as != 1) {
            return BAD_VALUE;
        }
        return as == 0 ? reader.pageFault(pad, padLength) : reader.redirectFault(pad, padLength);
    }

    // ---- pages

    /** Makes the pad the source of a page, empties it, and returns the number of lines. */
    public int load(int page) {
        if (!isPage(page)) {
            return NO_SUCH;
        }
        if (reader.pageFault(pad, padLength) != NONE) {
            return BAD_TEXT;
        }
        keepState();
        site.rememberSections(page);
        site.replaceSource(page, pad, padLength);
        padLength = 0;
        return site.outlines[page].lines;
    }

    /** Removes the source of a page and returns the set of the pages that still have one. */
    public int remove(int page) {
        if (!isPage(page)) {
            return NO_SUCH;
        }
        if (!site.now.hasSource(page)) {
            return NOT_POSSIBLE;
        }
        keepState();
        site.rememberSections(page);
        site.replaceSource(page, pad, 0);
        return site.now.sources();
    }

    /** Returns a character of a source, or its length for the index -1. */
    public int character(int page, int index) {
        if (!isPage(page)) {
            return NO_SUCH;
        }
        if (!site.now.hasSource(page)) {
            return NOT_POSSIBLE;
        }
        int length = site.now.length[page];
        if (index == -1) {
            return length;
        }
        return index >= 0 && index < length ? site.now.text[page * TEXT_MOST + index] : NONE;
    }

    /** Returns a number about a page with a source. */
    public int about(int page, int what) {
        if (!isPage(page)) {
            return NO_SUCH;
        }
        if (what < 0 || what > 7) {
            return BAD_VALUE;
        }
        if (!site.now.hasSource(page)) {
            return NOT_POSSIBLE;
        }
        Outline outline = site.outlines[page];
        Expansion expansion = site.expansions[page];
        switch (what) {
            case 0: return outline.lines;
            case 1: return expansion.lines;
            case 2: return expansion.headings;
            case 3: return outline.sections;
            case 4: return outline.links;
            case 5: return outline.includes;
            case 6: return outline.included;
            default: return expansion.origins;
        }
    }

    /** Returns the level, origin, length of the anchor or a part of the number of a heading. */
    public int heading(int page, int heading, int what) {
        if (!isHeading(page, heading)) {
            return NO_SUCH;
        }
        if (what < 0 || what > 12) {
            return BAD_VALUE;
        }
        Expansion expansion = site.expansions[page];
        switch (what) {
            case 0: return expansion.level[heading];
            case 1: return expansion.origin[heading];
            case 2: return Anchors.spell(expansion.anchor[heading], spelling, 0);
            default: return expansion.partOf(heading, what - 2);
        }
    }

    /** Returns a character of the anchor of a heading. */
    public int anchor(int page, int heading, int index) {
        if (!isHeading(page, heading)) {
            return NO_SUCH;
        }
        int length = Anchors.spell(site.expansions[page].anchor[heading], spelling, 0);
        return index >= 0 && index < length ? spelling[index] : NONE;
    }

    /** Returns the digest, the heading or the number of further lines of a section. */
    public int section(int page, int section, int what) {
        if (!isPage(page) || section < 0 || section >= site.outlines[page].sections) {
            return NO_SUCH;
        }
        switch (what) {
            case 0: return site.outlines[page].digest[section];
            case 1: return site.expansions[page].headingOf[section];
            case 2: return site.outlines[page].sectionLines[section];
            default: return BAD_VALUE;
        }
    }

    /** Returns the set of the pages that include themselves, by way of others or directly. */
    public int cycles() {
        int found = 0;
        for (int page = 0; page < PAGES; page++) {
            if (isIn(site.includedFrom(page), page)) {
                found |= 1 << page;
            }
        }
        return found;
    }

    // ---- links and redirects

    /** Adds the redirect that the pad describes, empties the pad, and returns their number. */
    public int redirect() {
        if (reader.redirectFault(pad, padLength) != NONE) {
            return BAD_TEXT;
        }
        int arrow = arrowInPad();
        int fromPage = pad[0] - 'A';
        long fromAnchor = Anchors.placeAnchor(pad, 0, arrow);
        int toPage = pad[arrow + 1] - 'A';
        long toAnchor = Anchors.placeAnchor(pad, arrow + 1, padLength);
        if (site.now.redirectFrom(fromPage, fromAnchor) != NONE || fromPage == toPage && fromAnchor == toAnchor) {
            return NOT_POSSIBLE;
        }
        if (site.now.redirects >= REDIRECTS_MOST) {
            return TOO_MANY;
        }
        keepState();
        site.now.addRedirect(fromPage, fromAnchor, toPage, toAnchor);
        padLength = 0;
        return site.now.redirects;
    }

    /** Removes a redirect and returns how many are left. */
    public int unredirect(int redirect) {
        if (!isRedirect(redirect)) {
            return NO_SUCH;
        }
        keepState();
        site.now.dropRedirect(redirect);
        return site.now.redirects;
    }

    /** Returns a place of a redirect, or how often links follow it. */
    public int redirection(int redirect, int what) {
        if (!isRedirect(redirect)) {
            return NO_SUCH;
        }
        switch (what) {
            case 0: return site.now.fromPage[redirect];
            case 1: return site.now.fromAnchor[redirect] == NO_ANCHOR ? 0 : 1;
            case 2: return site.now.toPage[redirect];
            case 3: return site.now.toAnchor[redirect] == NO_ANCHOR ? 0 : 1;
            case 4: return usesOf(redirect);
            default: return BAD_VALUE;
        }
    }

    /** Returns what a link is, what it names, or where it ends. */
    public int link(int page, int link, int what) {
        if (!isLink(page, link)) {
            return NO_SUCH;
        }
        if (what < 0 || what > 5) {
            return BAD_VALUE;
        }
        Outline outline = site.outlines[page];
        route.follow(outline, link);
        switch (what) {
            case 0: return route.kind;
            case 1: return outline.linkPage[link];
            case 2: return outline.linkAnchor[link] == NO_ANCHOR ? 0 : 1;
            case 3: return route.followed;
            case 4: return route.page;
            default: return route.heading;
        }
    }

    /** Counts the links of all pages that are DIRECT, REDIRECTED and so on. */
    public int tally(int what) {
        if (what < DIRECT || what > DANGLING) {
            return BAD_VALUE;
        }
        return linksOfKinds(what, what);
    }

    /** Returns the set of the pages that can be reached from a page, or of the sources that cannot. */
    public int reach(int page, int what) {
        if (!isPage(page)) {
            return NO_SUCH;
        }
        if (what != 0 && what != 1) {
            return BAD_VALUE;
        }
        int reached = reachedFrom(page);
        return what == 0 ? reached : site.now.sources() & ~reached;
    }

    // ---- moved sections

    /** Returns a property of an entry of the memory, or their number for the entry -1. */
    public int memory(int entry, int what) {
        if (what < 0 || what > 3) {
            return BAD_VALUE;
        }
        State now = site.now;
        if (entry == -1) {
            return now.entries;
        }
        if (entry < 0 || entry >= now.entries) {
            return NONE;
        }
        switch (what) {
            case 0: return now.entryPage[entry];
            case 1: return now.entryDigest[entry];
            case 2: return Anchors.spell(now.entryAnchor[entry], spelling, 0);
            default: return site.sectionsWith(now.entryDigest[entry]);
        }
    }

    // ---- repairs

    /** Returns the cost, the page or the heading of the repair of a broken link. */
    public int repair(int page, int link, int what) {
        if (!isLink(page, link)) {
            return NO_SUCH;
        }
        if (what < 0 || what > 2) {
            return BAD_VALUE;
        }
        if (!isBroken(page, link)) {
            return NOT_POSSIBLE;
        }
        mender.find(site.outlines[page], link);
        switch (what) {
            case 0: return mender.cost;
            case 1: return mender.page;
            default: return mender.heading;
        }
    }

    /** Writes the repair of a link into the source and returns the length of the source. */
    public int mend(int page, int link) {
        if (!isLink(page, link)) {
            return NO_SUCH;
        }
        if (!isBroken(page, link)) {
            return NOT_POSSIBLE;
        }
        mender.find(site.outlines[page], link);
        return writePlace(page, link, mender.page, mender.anchor, true);
    }

    /** Mends all broken links whose pages do not become too long, and returns how many. */
    public int mendAll() {
        int mended = 0;
        for (int page = 0; page < PAGES; page++) {
            for (int link = 0; link < site.outlines[page].links; link++) {
                if (isBroken(page, link)) {
                    mender.find(site.outlines[page], link);
                    // All that it mends is one change, which begins with the first link that is written.
                    int length = writePlace(page, link, mender.page, mender.anchor, mended == 0);
                    mended += length >= 0 ? 1 : 0;
                }
            }
        }
        return mended;
    }

    /** Writes the place at the end of a REDIRECTED link into the source. */
    public int straighten(int page, int link) {
        if (!isLink(page, link)) {
            return NO_SUCH;
        }
        Outline outline = site.outlines[page];
        route.follow(outline, link);
        if (route.kind != REDIRECTED) {
            return NOT_POSSIBLE;
        }
        return writePlace(page, link, route.page, route.anchor, true);
    }

    // ---- saving

    /** Undoes the latest change and returns how many can still be undone. */
    public int undo() {
        if (changes <= 0) {
            return NOT_POSSIBLE;
        }
        State before = history[changes - 1];
        if (before == null) {
            return NOT_POSSIBLE;
        }
        changes--;
        site.restore(before);
        return changes;
    }

    /** Returns a number about the whole. */
    public int count(int what) {
        switch (what) {
            case 0: return site.now.sources();
            case 1: return padLength;
            case 2: return site.now.redirects;
            case 3: return site.now.entries;
            case 4: return linksOfKinds(DIRECT, DANGLING);
            case 5: return linksOfKinds(CIRCULAR, DANGLING);
            case 6: return changes;
            default: return BAD_VALUE;
        }
    }

    // ---- what the calls share

    private static boolean isPage(int page) {
        return page >= 0 && page < PAGES;
    }

    private boolean isHeading(int page, int heading) {
        return isPage(page) && heading >= 0 && heading < site.expansions[page].headings;
    }

    private boolean isLink(int page, int link) {
        return isPage(page) && link >= 0 && link < site.outlines[page].links;
    }

    private boolean isRedirect(int redirect) {
        return redirect >= 0 && redirect < site.now.redirects;
    }

    private static boolean isIn(int set, int number) {
        return (set >>> number & 1) != 0;
    }

    /** How many characters a number stands for; 0 if it does not stand for characters. */
    private static int charactersIn(long characters) {
        for (int found = 0; found < 8; found++) {
            long rest = characters >>> 8 * found;
            if (rest == 0) {
                return found;
            }
            long code = rest & 255;
            if (code < 33 || code > 126) {
                return 0;
            }
        }
        return 8;
    }

    /** Where ">" stands in a pad without a fault as a redirect. */
    private int arrowInPad() {
        for (int at = 0; at < padLength - 1; at++) {
            if (pad[at] == '>') {
                return at;
            }
        }
        return 0;
    }

    private boolean isBroken(int page, int link) {
        Outline outline = site.outlines[page];
        route.follow(outline, link);
        return route.kind >= CIRCULAR;
    }

    /** Counts the links that are one of the kinds from lowest to highest. */
    private int linksOfKinds(int lowest, int highest) {
        int found = 0;
        for (int page = 0; page < PAGES; page++) {
            Outline outline = site.outlines[page];
            for (int link = 0; link < outline.links; link++) {
                route.follow(outline, link);
                if (route.kind >= lowest && route.kind <= highest) {
                    found++;
                }
            }
        }
        return found;
    }

    private int usesOf(int redirect) {
        int uses = 0;
        for (int page = 0; page < PAGES; page++) {
            Outline outline = site.outlines[page];
            for (int link = 0; link < outline.links; link++) {
                route.follow(outline, link);
                uses += route.usesOf(redirect);
            }
        }
        return uses;
    }

    private int reachedFrom(int page) {
        int reached = 1 << page;
        int looked = 0;
        // Each round looks at one page more at least, as long as there is one to look at.
        for (int round = 0; round < PAGES && looked != reached; round++) {
            for (int next = 0; next < PAGES; next++) {
                if (isIn(reached & ~looked, next)) {
                    looked |= 1 << next;
                    reached |= neighboursOf(next);
                }
            }
        }
        return reached;
    }

    /** The pages that a page includes, and those at the ends of its good links. */
    private int neighboursOf(int page) {
        Outline outline = site.outlines[page];
        int found = outline.included;
        for (int link = 0; link < outline.links; link++) {
            route.follow(outline, link);
            if (route.kind == DIRECT || route.kind == REDIRECTED) {
                found |= 1 << route.page;
            }
        }
        return found;
    }

    /** Writes a place as the target of a link; the state before is kept if this begins a change. */
    private int writePlace(int page, int link, int toPage, long toAnchor, boolean begins) {
        int length = site.spellTarget(page, link, toPage, toAnchor);
        if (length > TEXT_MOST) {
            return TOO_MANY;
        }
        if (begins) {
            keepState();
        }
        site.writeTarget(page, link);
        return length;
    }

    /** Keeps the state as it is before a change; the row of the oldest one is used again. */
    private void keepState() {
        if (changes >= CHANGES_MOST) {
            State oldest = history[0];
            for (int change = 1; change < CHANGES_MOST; change++) {
                history[change - 1] = history[change];
            }
            history[CHANGES_MOST - 1] = oldest;
            changes = CHANGES_MOST - 1;
        }
        if (history[changes] == null) {
            history[changes] = new State();
        }
        history[changes].become(site.now);
        changes++;
    }

    /**
     * An anchor is held as one number, so that two are compared at once and rows of them are short:
     * 6 bits for each sign of its name (1 to 36), and behind them 7 bits for its number, 0 without one.
     */
    private static final class Anchors {
        private Anchors() {
        }

        static long nameIn(char[] text, int from, int to) {
            long name = 0;
            for (int at = from; at < to; at++) {
                char sign = text[at];
                name = name << 6 | (sign >= 'a' ? sign - 'a' + 1 : sign - '0' + 27);
            }
            return name;
        }

        static long numbered(long name, int number) {
            return name << 7 | number;
        }

        static long nameOf(long anchor) {
            return anchor >>> 7;
        }

        /** The anchor of a place that stands in a text without a fault. */
        static long placeAnchor(char[] text, int from, int to) {
            int begin = indexOf(text, from, to, '#');
            if (begin >= to) {
                return NO_ANCHOR;
            }
            int dash = indexOf(text, begin, to, '-');
            int number = 0;
            for (int at = dash + 1; at < to; at++) {
                number = number * 10 + (text[at] - '0');
            }
            return numbered(nameIn(text, begin + 1, dash), number);
        }

        /** Where a sign stands first; the end if it does not. */
        static int indexOf(char[] text, int from, int to, char sign) {
            int at = from;
            while (at < to && text[at] != sign) {
                at++;
            }
            return at;
        }

        /** Writes an anchor as a text into a row with room for it, and returns its length. */
        static int spell(long anchor, char[] into, int begin) {
            long name = nameOf(anchor);
            int letters = 0;
            while (letters < NAME_MOST && name >>> 6 * letters != 0) {
                letters++;
            }
            int at = begin;
            for (int left = letters - 1; left >= 0; left--) {
                int sign = (int) (name >>> 6 * left & 63);
                into[at] = (char) (sign <= 26 ? 'a' + sign - 1 : '0' + sign - 27);
                at++;
            }
            return at - begin + spellNumber((int) (anchor & 127), into, at);
        }

        private static int spellNumber(int number, char[] into, int begin) {
            if (number == 0) {
                return 0;
            }
            int at = begin;
            into[at] = '-';
            at++;
            if (number >= 10) {
                into[at] = (char) ('0' + number / 10);
                at++;
            }
            into[at] = (char) ('0' + number % 10);
            return at + 1 - begin;
        }
    }

    /**
     * Reads a text by the grammar. No choice of the grammar needs more than the next sign, so where
     * the reading stops is the fault.
     */
    private static final class Reader {
        private char[] text = new char[0];
        private int length = 0;
        private int at = 0;

        int pageFault(char[] newText, int newLength) {
            begin(newText, newLength);
            // A line has a sign at least, so that there are never more of them than signs.
            for (int line = 0; line <= length; line++) {
                if (!takeLine()) {
                    return at;
                }
                if (!take(';')) {
                    return at == length ? NONE : at;
                }
            }
            return at;
        }

        int redirectFault(char[] newText, int newLength) {
            begin(newText, newLength);
            return takePlace() && take('>') && takePlace() && at == length ? NONE : at;
        }

        private void begin(char[] newText, int newLength) {
            text = newText;
            length = newLength;
            at = 0;
        }

        private boolean isNext(char sign) {
            return at < length && text[at] == sign;
        }

        private boolean take(char sign) {
            return takeBetween(sign, sign);
        }

        private boolean takeBetween(char first, char last) {
            if (at >= length || text[at] < first || text[at] > last) {
                return false;
            }
            at++;
            return true;
        }

        private boolean takeLine() {
            if (isNext('=')) {
                return takeHeading();
            }
            if (isNext('{')) {
                return takeInclude();
            }
            for (int element = 0; element <= length; element++) {
                if (!takeElement()) {
                    return false;
                }
                if (!take(',')) {
                    return true;
                }
            }
            return false;
        }

        private boolean takeHeading() {
            for (int level = 0; level < 3; level++) {
                take('=');
            }
            return takeName();
        }

        private boolean takeInclude() {
            if (!take('{') || !takeBetween('A', 'L')) {
                return false;
            }
            if (take('+') && !takeBetween('0', '2')) {
                return false;
            }
            return take('}');
        }

        private boolean takeElement() {
            if (!take('[')) {
                return takeName();
            }
            boolean lettered = takeBetween('A', 'L');
            if (isNext('#')) {
                return takeAnchor() && take(']');
            }
            return lettered && take(']');
        }

        private boolean takePlace() {
            return takeBetween('A', 'L') && (!isNext('#') || takeAnchor());
        }

        private boolean takeAnchor() {
            if (!take('#') || !takeName()) {
                return false;
            }
            if (!take('-')) {
                return true;
            }
            if (!takeBetween('1', '9')) {
                return false;
            }
            takeBetween('0', '9');
            return true;
        }

        /** Stops behind the eighth sign: where a name ends, no letter or digit can stand. */
        private boolean takeName() {
            if (!takeBetween('a', 'z')) {
                return false;
            }
            int taken = 1;
            while (taken < NAME_MOST && (takeBetween('a', 'z') || takeBetween('0', '9'))) {
                taken++;
            }
            return true;
        }
    }

    /** All that undo() brings back: sources, redirects and the memory. */
    private static final class State {
        final char[] text = new char[PAGES * TEXT_MOST];
        final int[] length = new int[PAGES];
        int redirects = 0;
        final int[] fromPage = new int[REDIRECTS_MOST];
        final long[] fromAnchor = new long[REDIRECTS_MOST];
        final int[] toPage = new int[REDIRECTS_MOST];
        final long[] toAnchor = new long[REDIRECTS_MOST];
        int entries = 0;
        final int[] entryPage = new int[ENTRIES_MOST];
        final long[] entryAnchor = new long[ENTRIES_MOST];
        final int[] entryDigest = new int[ENTRIES_MOST];

        void become(State other) {
            System.arraycopy(other.text, 0, text, 0, text.length);
            System.arraycopy(other.length, 0, length, 0, PAGES);
            redirects = other.redirects;
            System.arraycopy(other.fromPage, 0, fromPage, 0, redirects);
            System.arraycopy(other.fromAnchor, 0, fromAnchor, 0, redirects);
            System.arraycopy(other.toPage, 0, toPage, 0, redirects);
            System.arraycopy(other.toAnchor, 0, toAnchor, 0, redirects);
            entries = other.entries;
            System.arraycopy(other.entryPage, 0, entryPage, 0, entries);
            System.arraycopy(other.entryAnchor, 0, entryAnchor, 0, entries);
            System.arraycopy(other.entryDigest, 0, entryDigest, 0, entries);
        }

        /** A text without a fault is never empty, so that the length 0 means that there is none. */
        boolean hasSource(int page) {
            return length[page] > 0;
        }

        int sources() {
            int found = 0;
            for (int page = 0; page < PAGES; page++) {
                if (hasSource(page)) {
                    found |= 1 << page;
                }
            }
            return found;
        }

        int redirectFrom(int page, long place) {
            for (int redirect = 0; redirect < redirects; redirect++) {
                if (fromPage[redirect] == page && fromAnchor[redirect] == place) {
                    return redirect;
                }
            }
            return NONE;
        }

        void addRedirect(int ofPage, long ofAnchor, int newPage, long newAnchor) {
            if (redirects >= REDIRECTS_MOST) {
                return;
            }
            fromPage[redirects] = ofPage;
            fromAnchor[redirects] = ofAnchor;
            toPage[redirects] = newPage;
            toAnchor[redirects] = newAnchor;
            redirects++;
        }

        void dropRedirect(int redirect) {
            int behind = redirects - redirect - 1;
            if (redirect < 0 || behind < 0) {
                return;
            }
            System.arraycopy(fromPage, redirect + 1, fromPage, redirect, behind);
            System.arraycopy(fromAnchor, redirect + 1, fromAnchor, redirect, behind);
            System.arraycopy(toPage, redirect + 1, toPage, redirect, behind);
            System.arraycopy(toAnchor, redirect + 1, toAnchor, redirect, behind);
            redirects--;
        }

        int entryWith(int page, long place) {
            for (int entry = 0; entry < entries; entry++) {
                if (entryPage[entry] == page && entryAnchor[entry] == place) {
                    return entry;
                }
            }
            return NONE;
        }

        void addEntry(int page, long place, int digest) {
            dropEntry(entryWith(page, place));
            if (entries >= ENTRIES_MOST) {
                dropEntry(0);
            }
            entryPage[entries] = page;
            entryAnchor[entries] = place;
            entryDigest[entries] = digest;
            entries++;
        }

        private void dropEntry(int entry) {
            int behind = entries - entry - 1;
            if (entry < 0 || behind < 0) {
                return;
            }
            System.arraycopy(entryPage, entry + 1, entryPage, entry, behind);
            System.arraycopy(entryAnchor, entry + 1, entryAnchor, entry, behind);
            System.arraycopy(entryDigest, entry + 1, entryDigest, entry, behind);
            entries--;
        }
    }

    /** What stands in the own source of a page; nothing if it has none. */
    private static final class Outline {
        private final int own;
        int lines = 0;
        /** The level of a heading, PARAGRAPH or INCLUDE. */
        final int[] kind = new int[LINES_MOST];
        final long[] name = new long[LINES_MOST];
        final int[] target = new int[LINES_MOST];
        final int[] shift = new int[LINES_MOST];
        int includes = 0;
        int included = 0;
        int links = 0;
        final int[] linkPage = new int[LINKS_MOST];
        final long[] linkAnchor = new long[LINKS_MOST];
        final int[] linkFrom = new int[LINKS_MOST];
        final int[] linkTo = new int[LINKS_MOST];
        int sections = 0;
        final int[] sectionLines = new int[SECTIONS_MOST];
        final int[] digest = new int[SECTIONS_MOST];

        Outline(int page) {
            own = page;
        }

        /** Takes apart a text without a fault, or an empty one. */
        void read(char[] text, int from, int to) {
            lines = 0;
            includes = 0;
            included = 0;
            links = 0;
            sections = 0;
            int begin = from;
            while (lines < LINES_MOST && begin < to) {
                int end = Anchors.indexOf(text, begin, to, ';');
                addLine(text, begin, end);
                lines++;
                begin = end + 1;
            }
            readLinks(text, from, to);
        }

        private void addLine(char[] text, int from, int to) {
            if (text[from] == '=') {
                addHeading(text, from, to);
                return;
            }
            if (text[from] == '{') {
                addInclude(text, from, to);
            } else {
                kind[lines] = PARAGRAPH;
            }
            if (sections > 0) {
                growSection(text, from, to);
            }
        }

        private void addHeading(char[] text, int from, int to) {
            int begin = from;
            while (begin < to && text[begin] == '=') {
                begin++;
            }
            kind[lines] = begin - from;
            name[lines] = Anchors.nameIn(text, begin, to);
            if (sections < SECTIONS_MOST) {
                sectionLines[sections] = 0;
                digest[sections] = 7;
                sections++;
            }
        }

        private void addInclude(char[] text, int from, int to) {
            boolean shifted = to - from > 4;
            kind[lines] = INCLUDE;
            target[lines] = to - from > 1 ? text[from + 1] - 'A' : own;
            shift[lines] = shifted ? text[from + 3] - '0' : 0;
            includes++;
            included |= 1 << target[lines];
        }

        private void readLinks(char[] text, int from, int to) {
            int begin = from;
            for (int at = from; at < to && links < LINKS_MOST; at++) {
                if (text[at] == '[') {
                    begin = at + 1;
                } else if (text[at] == ']') {
                    linkPage[links] = text[begin] == '#' ? own : text[begin] - 'A';
                    linkAnchor[links] = Anchors.placeAnchor(text, begin, at);
                    linkFrom[links] = begin;
                    linkTo[links] = at;
                    links++;
                }
            }
        }

        private void growSection(char[] text, int from, int to) {
            int section = sections - 1;
            int sum = (31 * digest[section] + ';') % 1000003;
            for (int at = from; at < to; at++) {
                sum = (31 * sum + text[at]) % 1000003;
            }
            digest[section] = sum;
            sectionLines[section]++;
        }
    }

    /** The expansion of a page: its headings, and what is told of its lines. */
    private static final class Expansion {
        int lines = 0;
        int origins = 0;
        int headings = 0;
        final int[] level = new int[EXPANDED_MOST];
        final int[] origin = new int[EXPANDED_MOST];
        final long[] anchor = new long[EXPANDED_MOST];
        /** The section of the page itself that a heading begins, NONE if it stands in another source. */
        final int[] sectionOf = new int[EXPANDED_MOST];
        final int[] headingOf = new int[SECTIONS_MOST];
        private int replaced = 0;
        private int underWay = 0;

        void build(Outline[] outlines, int page) {
            lines = 0;
            origins = 0;
            headings = 0;
            replaced = 0;
            underWay = 0;
            for (int section = 0; section < outlines[page].sections; section++) {
                headingOf[section] = NONE;
            }
            addPage(outlines, page, 0, 0);
        }

        private void addPage(Outline[] outlines, int page, int shift, int depth) {
            if (depth >= PAGES) {
                return;
            }
            Outline outline = outlines[page];
            int sections = 0;
            underWay |= 1 << page;
            for (int line = 0; line < outline.lines && lines < EXPANDED_MOST; line++) {
                int kind = outline.kind[line];
                if (kind == INCLUDE) {
                    if (isReplaced(outlines, outline.target[line])) {
                        replaced++;
                        addPage(outlines, outline.target[line], shift + outline.shift[line], depth + 1);
                    }
                    continue;
                }
                lines++;
                origins |= 1 << page;
                if (kind != PARAGRAPH) {
                    addHeading(outline.name[line], kind + shift, page, depth == 0 ? sections : NONE);
                    sections++;
                }
            }
            underWay &= ~(1 << page);
        }

        private boolean isReplaced(Outline[] outlines, int page) {
            return replaced < REPLACED_MOST && outlines[page].lines > 0 && !isIn(underWay, page);
        }

        private void addHeading(long name, int newLevel, int page, int section) {
            if (headings >= EXPANDED_MOST) {
                return;
            }
            level[headings] = newLevel;
            origin[headings] = page;
            anchor[headings] = Anchors.numbered(name, headingsNamed(name));
            sectionOf[headings] = section;
            if (section >= 0 && section < SECTIONS_MOST) {
                headingOf[section] = headings;
            }
            headings++;
        }

        private int headingsNamed(long name) {
            int found = 0;
            for (int heading = 0; heading < headings; heading++) {
                if (Anchors.nameOf(anchor[heading]) == name) {
                    found++;
                }
            }
            return found;
        }

        int headingWith(long wanted) {
            for (int heading = 0; heading < headings; heading++) {
                if (anchor[heading] == wanted) {
                    return heading;
                }
            }
            return NONE;
        }

        /** A counter has counted the headings of its level since the last one of a lower level. */
        int partOf(int heading, int part) {
            int counter = 0;
            for (int before = heading; before >= 0 && level[before] >= part; before--) {
                if (level[before] == part) {
                    counter++;
                }
            }
            return counter;
        }
    }

    /** The state as it is now, with what follows from its sources. */
    private static final class Site {
        final State now = new State();
        final Outline[] outlines = new Outline[PAGES];
        final Expansion[] expansions = new Expansion[PAGES];
        private final char[] target = new char[ANCHOR_MOST + 2];
        private int targetLength = 0;

        Site() {
            for (int page = 0; page < PAGES; page++) {
                outlines[page] = new Outline(page);
                expansions[page] = new Expansion();
            }
        }

        /** Gives a page another source; none with the length 0. */
        void replaceSource(int page, char[] source, int length) {
            System.arraycopy(source, 0, now.text, page * TEXT_MOST, length);
            now.length[page] = length;
            readSource(page);
            expandAll();
        }

        void restore(State before) {
            now.become(before);
            for (int page = 0; page < PAGES; page++) {
                readSource(page);
            }
            expandAll();
        }

        private void readSource(int page) {
            int from = page * TEXT_MOST;
            outlines[page].read(now.text, from, from + now.length[page]);
        }

        private void expandAll() {
            for (int page = 0; page < PAGES; page++) {
                expansions[page].build(outlines, page);
            }
        }

        void rememberSections(int page) {
            Outline outline = outlines[page];
            Expansion expansion = expansions[page];
            for (int section = 0; section < outline.sections; section++) {
                int heading = expansion.headingOf[section];
                if (heading != NONE && outline.sectionLines[section] > 0) {
                    now.addEntry(page, expansion.anchor[heading], outline.digest[section]);
                }
            }
        }

        int sectionsWith(int digest) {
            int found = 0;
            for (int page = 0; page < PAGES; page++) {
                for (int section = 0; section < outlines[page].sections; section++) {
                    boolean anchored = expansions[page].headingOf[section] != NONE;
                    if (anchored && outlines[page].digest[section] == digest) {
                        found++;
                    }
                }
            }
            return found;
        }

        /** The pages that a page includes, directly or by way of others; a page without a source includes none. */
        int includedFrom(int page) {
            int found = outlines[page].included;
            for (int round = 1; round < PAGES; round++) {
                int more = found;
                for (int next = 0; next < PAGES; next++) {
                    if (isIn(found, next)) {
                        more |= outlines[next].included;
                    }
                }
                found = more;
            }
            return found;
        }

        /** Spells a new target for a link, and returns the length that its source would have with it. */
        int spellTarget(int page, int link, int toPage, long toAnchor) {
            targetLength = 0;
            if (toAnchor == NO_ANCHOR || toPage != page) {
                target[targetLength] = (char) ('A' + toPage);
                targetLength++;
            }
            if (toAnchor != NO_ANCHOR) {
                target[targetLength] = '#';
                targetLength++;
                targetLength += Anchors.spell(toAnchor, target, targetLength);
            }
            Outline outline = outlines[page];
            return now.length[page] + targetLength - (outline.linkTo[link] - outline.linkFrom[link]);
        }

        /**
         * Writes the target that was spelled last, for which there has to be room. Headings and
         * includes stay as they are, and so do all expansions.
         */
        void writeTarget(int page, int link) {
            int from = outlines[page].linkFrom[link];
            int to = outlines[page].linkTo[link];
            int end = page * TEXT_MOST + now.length[page];
            System.arraycopy(now.text, to, now.text, from + targetLength, end - to);
            System.arraycopy(target, 0, now.text, from, targetLength);
            now.length[page] += targetLength - (to - from);
            readSource(page);
        }
    }

    /** The way of a link: what it is, and where it ends. */
    private static final class Route {
        private final Site site;
        int kind = DIRECT;
        int page = 0;
        long anchor = NO_ANCHOR;
        int heading = NONE;
        int followed = 0;
        private final int[] pageAt = new int[STEPS_MOST];
        private final long[] anchorAt = new long[STEPS_MOST];
        private final int[] redirectAt = new int[STEPS_MOST];

        Route(Site ofSite) {
            site = ofSite;
        }

        void follow(Outline outline, int link) {
            page = outline.linkPage[link];
            anchor = outline.linkAnchor[link];
            heading = NONE;
            kind = CIRCULAR;
            for (followed = 0; followed < STEPS_MOST && !wasHere(); followed++) {
                pageAt[followed] = page;
                anchorAt[followed] = anchor;
                if (isGood()) {
                    kind = followed == 0 ? DIRECT : REDIRECTED;
                    return;
                }
                if (!goOn()) {
                    kind = site.now.hasSource(page) ? DANGLING : LOST;
                    return;
                }
            }
        }

        int usesOf(int redirect) {
            int uses = 0;
            for (int step = 0; step < followed; step++) {
                if (redirectAt[step] == redirect) {
                    uses++;
                }
            }
            return uses;
        }

        private boolean wasHere() {
            for (int step = 0; step < followed; step++) {
                if (pageAt[step] == page && anchorAt[step] == anchor) {
                    return true;
                }
            }
            return false;
        }

        private boolean isGood() {
            if (!site.now.hasSource(page)) {
                return false;
            }
            if (anchor == NO_ANCHOR) {
                return true;
            }
            heading = site.expansions[page].headingWith(anchor);
            return heading != NONE;
        }

        /** Follows a redirect from this place, or from the whole page if it has no source. */
        private boolean goOn() {
            State now = site.now;
            int redirect = now.redirectFrom(page, anchor);
            boolean whole = redirect == NONE && !now.hasSource(page);
            if (whole) {
                redirect = now.redirectFrom(page, NO_ANCHOR);
            }
            if (redirect == NONE) {
                return false;
            }
            redirectAt[followed] = redirect;
            page = now.toPage[redirect];
            if (!whole || now.toAnchor[redirect] != NO_ANCHOR) {
                anchor = now.toAnchor[redirect];
            }
            return true;
        }
    }

    /** Finds the cheapest candidate for a broken link. */
    private static final class Mender {
        private static final int DEAR = 1000;
        private static final int NOT_REMEMBERED = -1;

        private final Site site;
        int cost = DEAR;
        int page = 0;
        int heading = NONE;
        long anchor = NO_ANCHOR;
        private long wanted = NO_ANCHOR;
        private final char[] wantedText = new char[ANCHOR_MOST];
        private int wantedLength = 0;
        private final char[] triedText = new char[ANCHOR_MOST];
        private final int[] row = new int[ANCHOR_MOST + 1];

        Mender(Site ofSite) {
            site = ofSite;
        }

        /** Candidates come in the order in which they are preferred, so that only a lower cost counts. */
        void find(Outline outline, int link) {
            int named = outline.linkPage[link];
            wanted = outline.linkAnchor[link];
            wantedLength = Anchors.spell(wanted, wantedText, 0);
            cost = DEAR;
            page = named;
            heading = NONE;
            anchor = NO_ANCHOR;
            int entry = site.now.entryWith(named, wanted);
            int digest = entry == NONE ? NOT_REMEMBERED : site.now.entryDigest[entry];
            for (int next = 0; next < PAGES; next++) {
                if (!site.now.hasSource(next)) {
                    continue;
                }
                if (wanted == NO_ANCHOR) {
                    offer(4 + Math.abs(next - named), next, NONE, NO_ANCHOR);
                } else {
                    int extra = next == named ? 0 : 4;
                    offer(6 + extra, next, NONE, NO_ANCHOR);
                    offerHeadings(next, extra, digest);
                }
            }
        }

        private void offerHeadings(int next, int extra, int digest) {
            Expansion expansion = site.expansions[next];
            for (int candidate = 0; candidate < expansion.headings; candidate++) {
                long place = expansion.anchor[candidate];
                int section = expansion.sectionOf[candidate];
                if (section != NONE && site.outlines[next].digest[section] == digest) {
                    offer(1, next, candidate, place);
                } else if (extra < cost) {
                    // From this number of steps on, the candidate is not cheaper than the best so far.
                    int limit = (cost - extra + 1) / 2;
                    offer(2 * stepsTo(place, limit) + extra, next, candidate, place);
                }
            }
        }

        private void offer(int newCost, int newPage, int newHeading, long newAnchor) {
            if (newCost < cost) {
                cost = newCost;
                page = newPage;
                heading = newHeading;
                anchor = newAnchor;
            }
        }

        /** The number of steps to an anchor, or some number from the limit on if it is not below it. */
        private int stepsTo(long place, int limit) {
            if (place == wanted) {
                return 0;
            }
            if (limit <= 1) {
                return limit;
            }
            int triedLength = Anchors.spell(place, triedText, 0);
            if (Math.abs(wantedLength - triedLength) >= limit) {
                return limit;
            }
            for (int column = 0; column <= triedLength; column++) {
                row[column] = column;
            }
            for (int line = 1; line <= wantedLength; line++) {
                if (fillRow(line, triedLength) >= limit) {
                    return limit;
                }
            }
            return row[triedLength];
        }

        /** Goes on to the next line of the table of steps, and returns the least number in it. */
        private int fillRow(int line, int triedLength) {
            int corner = row[0];
            row[0] = line;
            int least = line;
            for (int column = 1; column <= triedLength; column++) {
                int changed = corner + (wantedText[line - 1] == triedText[column - 1] ? 0 : 1);
                corner = row[column];
                row[column] = Math.min(changed, 1 + Math.min(corner, row[column - 1]));
                least = Math.min(least, row[column]);
            }
            return least;
        }
    }
}
