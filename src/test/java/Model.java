import java.util.ArrayDeque;
import java.util.ArrayList;
import java.util.Arrays;
import java.util.Deque;
import java.util.HashSet;
import java.util.List;
import java.util.Set;
import java.util.TreeSet;
import java.util.regex.Matcher;
import java.util.regex.Pattern;

/**
 * The document once more, as plainly as the Java library allows: texts, lists and copies, nothing
 * kept that can be found anew. FuzzTest compares LinkAuditor with it.
 */
final class Model {
    static final int NO_SUCH = -1, BAD_VALUE = -2, BAD_TEXT = -3, TOO_MANY = -4, NOT_POSSIBLE = -5, NONE = -6;
    static final int DIRECT = 0, REDIRECTED = 1, CIRCULAR = 2, LOST = 3, DANGLING = 4;

    private static final String NAME = "[a-z][a-z0-9]{0,7}";
    private static final String ANCHOR = NAME + "(?:-[1-9][0-9]?)?";
    private static final String PLACE = "[A-L](?:#" + ANCHOR + ")?";
    private static final String ELEMENT = "(?:" + NAME + "|\\[(?:" + PLACE + "|#" + ANCHOR + ")\\])";
    private static final String LINE =
        "(?:={1,3}" + NAME + "|\\{[A-L](?:\\+[012])?\\}|" + ELEMENT + "(?:," + ELEMENT + ")*)";
    private static final Pattern PAGE = Pattern.compile(LINE + "(?:;" + LINE + ")*");
    private static final Pattern REDIRECT = Pattern.compile(PLACE + ">" + PLACE);
    private static final Pattern TARGET = Pattern.compile("\\[([^\\]]*)\\]");

    /** A page with an anchor, or with null for none. */
    record Place(int page, String anchor) { }

    record Redirect(Place from, Place to) { }

    record Entry(Place place, int digest) { }

    record Line(int page, String text, int level, int ownIndex) { }

    record Heading(int page, int level, String anchor, List<Integer> number, int ownIndex) { }

    record Section(int digest, int lines, int heading) { }

    record End(int kind, int followed, Place place, int heading, List<Integer> redirects) { }

    record Repair(int cost, Place place, int heading) { }

    record Saved(String[] sources, List<Redirect> redirects, List<Entry> memory) { }

    private String pad = "";
    private String[] sources = new String[12];
    private List<Redirect> redirects = new ArrayList<>();
    private List<Entry> memory = new ArrayList<>();
    private final Deque<Saved> history = new ArrayDeque<>();

    // ---- the pad

    int put(long characters) {
        String text = "";
        long rest = characters;
        while (rest != 0) {
            int code = (int) (rest & 255);
            if (code < 33 || code > 126) {
                return BAD_VALUE;
            }
            text = (char) code + text;
            rest >>>= 8;
        }
        if (text.isEmpty()) {
            return BAD_VALUE;
        }
        if (pad.length() + text.length() > 160) {
            return TOO_MANY;
        }
        pad += text;
        return pad.length();
    }

    int wipe() {
        int length = pad.length();
        pad = "";
        return length;
    }

    int fault(int as) {
        return as == 0 ? faultBy(PAGE) : as == 1 ? faultBy(REDIRECT) : BAD_VALUE;
    }

    private int faultBy(Pattern pattern) {
        for (int length = 1; length <= pad.length(); length++) {
            Matcher matcher = pattern.matcher(pad.substring(0, length));
            if (!matcher.matches() && !matcher.hitEnd()) {
                return length - 1;
            }
        }
        return pattern.matcher(pad).matches() ? NONE : pad.length();
    }

    // ---- pages

    int load(int page) {
        if (page < 0 || page > 11) {
            return NO_SUCH;
        }
        if (faultBy(PAGE) != NONE) {
            return BAD_TEXT;
        }
        save();
        if (sources[page] != null) {
            rememberAll(page);
        }
        sources[page] = pad;
        pad = "";
        return sources[page].split(";").length;
    }

    int remove(int page) {
        if (page < 0 || page > 11) {
            return NO_SUCH;
        }
        if (sources[page] == null) {
            return NOT_POSSIBLE;
        }
        save();
        rememberAll(page);
        sources[page] = null;
        return withSource();
    }

    private void rememberAll(int page) {
        List<Entry> found = new ArrayList<>();
        List<Heading> headings = headings(page);
        for (Section section : sections(page)) {
            if (section.heading >= 0 && section.lines > 0) {
                found.add(new Entry(new Place(page, headings.get(section.heading).anchor), section.digest));
            }
        }
        for (Entry entry : found) {
            memory.removeIf(old -> old.place.equals(entry.place));
            memory.add(entry);
            if (memory.size() > 40) {
                memory.remove(0);
            }
        }
    }

    private int withSource() {
        int set = 0;
        for (int page = 0; page < 12; page++) {
            set |= sources[page] != null ? 1 << page : 0;
        }
        return set;
    }

    int character(int page, int index) {
        if (page < 0 || page > 11) {
            return NO_SUCH;
        }
        if (sources[page] == null) {
            return NOT_POSSIBLE;
        }
        if (index == -1) {
            return sources[page].length();
        }
        return index < 0 || index >= sources[page].length() ? NONE : sources[page].charAt(index);
    }

    int about(int page, int what) {
        if (page < 0 || page > 11) {
            return NO_SUCH;
        }
        if (what < 0 || what > 7) {
            return BAD_VALUE;
        }
        if (sources[page] == null) {
            return NOT_POSSIBLE;
        }
        return switch (what) {
            case 0 -> sources[page].split(";").length;
            case 1 -> expansion(page).size();
            case 2 -> headings(page).size();
            case 3 -> sections(page).size();
            case 4 -> links(page).size();
            case 5 -> included(page).size();
            case 6 -> setOf(included(page));
            default -> setOf(expansion(page).stream().map(line -> line.page).toList());
        };
    }

    private static int setOf(Iterable<Integer> numbers) {
        int set = 0;
        for (int number : numbers) {
            set |= 1 << number;
        }
        return set;
    }

    private List<Integer> included(int page) {
        List<Integer> found = new ArrayList<>();
        if (sources[page] != null) {
            for (String line : sources[page].split(";")) {
                if (line.startsWith("{")) {
                    found.add(line.charAt(1) - 'A');
                }
            }
        }
        return found;
    }

    private List<Line> expansion(int page) {
        List<Line> lines = new ArrayList<>();
        expand(page, 0, new ArrayList<>(), lines, new int[1]);
        return lines.size() > 100 ? lines.subList(0, 100) : lines;
    }

    /** Goes on behind the 100th line on purpose: it is cut off above. */
    private void expand(int page, int more, List<Integer> underWay, List<Line> into, int[] replaced) {
        if (sources[page] == null) {
            return;
        }
        underWay.add(page);
        String[] own = sources[page].split(";");
        for (int index = 0; index < own.length; index++) {
            String line = own[index];
            if (line.startsWith("{")) {
                int next = line.charAt(1) - 'A';
                int plus = line.contains("+") ? line.charAt(3) - '0' : 0;
                if (sources[next] != null && !underWay.contains(next) && replaced[0] < 200) {
                    replaced[0]++;
                    expand(next, more + plus, underWay, into, replaced);
                }
            } else {
                int level = line.lastIndexOf('=') + 1;
                into.add(new Line(page, line, level == 0 ? 0 : level + more, underWay.size() == 1 ? index : -1));
            }
        }
        underWay.remove(underWay.size() - 1);
    }

    private List<Heading> headings(int page) {
        List<Heading> found = new ArrayList<>();
        List<String> names = new ArrayList<>();
        int[] counters = new int[40];
        for (Line line : expansion(page)) {
            if (line.level == 0) {
                continue;
            }
            String name = line.text.replace("=", "");
            long same = names.stream().filter(name::equals).count();
            names.add(name);
            counters[line.level]++;
            Arrays.fill(counters, line.level + 1, counters.length, 0);
            List<Integer> number = new ArrayList<>();
            for (int level = 1; level <= line.level; level++) {
                number.add(counters[level]);
            }
            found.add(new Heading(line.page, line.level, same == 0 ? name : name + "-" + same, number, line.ownIndex));
        }
        return found;
    }

    private List<Section> sections(int page) {
        List<Section> found = new ArrayList<>();
        if (sources[page] == null) {
            return found;
        }
        List<Heading> headings = headings(page);
        String[] own = sources[page].split(";");
        for (int begin = 0; begin < own.length; begin++) {
            if (!own[begin].startsWith("=")) {
                continue;
            }
            String text = "";
            int lines = 0;
            for (int index = begin + 1; index < own.length && !own[index].startsWith("="); index++) {
                text += ";" + own[index];
                lines++;
            }
            long digest = 7;
            for (char sign : text.toCharArray()) {
                digest = (31 * digest + sign) % 1000003;
            }
            int heading = NONE;
            for (int index = 0; index < headings.size(); index++) {
                heading = headings.get(index).ownIndex == begin ? index : heading;
            }
            found.add(new Section((int) digest, lines, heading));
        }
        return found;
    }

    int heading(int page, int heading, int what) {
        if (page < 0 || page > 11 || heading < 0 || heading >= headings(page).size()) {
            return NO_SUCH;
        }
        if (what < 0 || what > 12) {
            return BAD_VALUE;
        }
        Heading found = headings(page).get(heading);
        return switch (what) {
            case 0 -> found.level;
            case 1 -> found.page;
            case 2 -> found.anchor.length();
            default -> what - 3 < found.number.size() ? found.number.get(what - 3) : 0;
        };
    }

    int anchor(int page, int heading, int index) {
        if (page < 0 || page > 11 || heading < 0 || heading >= headings(page).size()) {
            return NO_SUCH;
        }
        String text = headings(page).get(heading).anchor;
        return index < 0 || index >= text.length() ? NONE : text.charAt(index);
    }

    int section(int page, int section, int what) {
        if (page < 0 || page > 11 || section < 0 || section >= sections(page).size()) {
            return NO_SUCH;
        }
        if (what < 0 || what > 2) {
            return BAD_VALUE;
        }
        Section found = sections(page).get(section);
        return what == 0 ? found.digest : what == 1 ? found.heading : found.lines;
    }

    int cycles() {
        int set = 0;
        for (int page = 0; page < 12; page++) {
            Set<Integer> met = new TreeSet<>();
            Deque<Integer> open = new ArrayDeque<>(included(page));
            while (!open.isEmpty()) {
                int next = open.pop();
                if (sources[next] != null && met.add(next)) {
                    open.addAll(included(next));
                }
            }
            set |= met.contains(page) ? 1 << page : 0;
        }
        return set;
    }

    // ---- links and redirects

    private static Place placeOf(String text, int own) {
        int sharp = text.indexOf('#');
        int page = text.startsWith("#") ? own : text.charAt(0) - 'A';
        return new Place(page, sharp < 0 ? null : text.substring(sharp + 1));
    }

    private List<Place> links(int page) {
        List<Place> found = new ArrayList<>();
        if (sources[page] != null) {
            Matcher matcher = TARGET.matcher(sources[page]);
            while (matcher.find()) {
                found.add(placeOf(matcher.group(1), page));
            }
        }
        return found;
    }

    int redirect() {
        if (faultBy(REDIRECT) != NONE) {
            return BAD_TEXT;
        }
        String[] parts = pad.split(">");
        Redirect added = new Redirect(placeOf(parts[0], -1), placeOf(parts[1], -1));
        if (added.from.equals(added.to) || redirects.stream().anyMatch(old -> old.from.equals(added.from))) {
            return NOT_POSSIBLE;
        }
        if (redirects.size() == 12) {
            return TOO_MANY;
        }
        save();
        redirects.add(added);
        pad = "";
        return redirects.size();
    }

    int unredirect(int redirect) {
        if (redirect < 0 || redirect >= redirects.size()) {
            return NO_SUCH;
        }
        save();
        redirects.remove(redirect);
        return redirects.size();
    }

    int redirection(int redirect, int what) {
        if (redirect < 0 || redirect >= redirects.size()) {
            return NO_SUCH;
        }
        Redirect found = redirects.get(redirect);
        return switch (what) {
            case 0 -> found.from.page;
            case 1 -> found.from.anchor == null ? 0 : 1;
            case 2 -> found.to.page;
            case 3 -> found.to.anchor == null ? 0 : 1;
            case 4 -> (int) ends().stream().flatMap(end -> end.redirects.stream()).filter(r -> r == redirect).count();
            default -> BAD_VALUE;
        };
    }

    private List<End> ends() {
        List<End> found = new ArrayList<>();
        for (int page = 0; page < 12; page++) {
            for (Place place : links(page)) {
                found.add(resolve(place));
            }
        }
        return found;
    }

    private int headingWith(Place place) {
        List<Heading> headings = headings(place.page);
        for (int heading = 0; heading < headings.size(); heading++) {
            if (headings.get(heading).anchor.equals(place.anchor)) {
                return heading;
            }
        }
        return NONE;
    }

    private int redirectFrom(Place place) {
        for (int redirect = 0; redirect < redirects.size(); redirect++) {
            if (redirects.get(redirect).from.equals(place)) {
                return redirect;
            }
        }
        return NONE;
    }

    private End resolve(Place begin) {
        Set<Place> met = new HashSet<>();
        List<Integer> used = new ArrayList<>();
        Place here = begin;
        while (true) {
            if (!met.add(here)) {
                return new End(CIRCULAR, used.size(), here, NONE, used);
            }
            boolean source = sources[here.page] != null;
            int heading = here.anchor == null ? NONE : headingWith(here);
            if (source && (here.anchor == null || heading != NONE)) {
                return new End(used.isEmpty() ? DIRECT : REDIRECTED, used.size(), here, heading, used);
            }
            int exact = redirectFrom(here);
            int whole = redirectFrom(new Place(here.page, null));
            if (exact != NONE) {
                used.add(exact);
                here = redirects.get(exact).to;
            } else if (!source && here.anchor != null && whole != NONE) {
                used.add(whole);
                Place to = redirects.get(whole).to;
                here = new Place(to.page, to.anchor != null ? to.anchor : here.anchor);
            } else {
                return new End(source ? DANGLING : LOST, used.size(), here, NONE, used);
            }
        }
    }

    private boolean noLink(int page, int link) {
        return page < 0 || page > 11 || link < 0 || link >= links(page).size();
    }

    int link(int page, int link, int what) {
        if (noLink(page, link)) {
            return NO_SUCH;
        }
        Place named = links(page).get(link);
        End end = resolve(named);
        return switch (what) {
            case 0 -> end.kind;
            case 1 -> named.page;
            case 2 -> named.anchor == null ? 0 : 1;
            case 3 -> end.followed;
            case 4 -> end.place.page;
            case 5 -> end.heading;
            default -> BAD_VALUE;
        };
    }

    int tally(int what) {
        return what < 0 || what > 4 ? BAD_VALUE : (int) ends().stream().filter(end -> end.kind == what).count();
    }

    int reach(int page, int what) {
        if (page < 0 || page > 11) {
            return NO_SUCH;
        }
        if (what != 0 && what != 1) {
            return BAD_VALUE;
        }
        Set<Integer> met = new TreeSet<>();
        Deque<Integer> open = new ArrayDeque<>(List.of(page));
        while (!open.isEmpty()) {
            int next = open.pop();
            if (met.add(next) && sources[next] != null) {
                open.addAll(included(next));
                for (Place place : links(next)) {
                    End end = resolve(place);
                    if (end.kind == DIRECT || end.kind == REDIRECTED) {
                        open.add(end.place.page);
                    }
                }
            }
        }
        return what == 0 ? setOf(met) : withSource() & ~setOf(met);
    }

    // ---- moved sections

    int memory(int entry, int what) {
        if (what < 0 || what > 3) {
            return BAD_VALUE;
        }
        if (entry == -1) {
            return memory.size();
        }
        if (entry < 0 || entry >= memory.size()) {
            return NONE;
        }
        Entry found = memory.get(entry);
        if (what < 3) {
            return what == 0 ? found.place.page : what == 1 ? found.digest : found.place.anchor.length();
        }
        int same = 0;
        for (int page = 0; page < 12; page++) {
            for (Section section : sections(page)) {
                same += section.heading != NONE && section.digest == found.digest ? 1 : 0;
            }
        }
        return same;
    }

    // ---- repairs

    private static int steps(String from, String to) {
        int[][] table = new int[from.length() + 1][to.length() + 1];
        for (int i = 0; i <= from.length(); i++) {
            for (int j = 0; j <= to.length(); j++) {
                if (i == 0 || j == 0) {
                    table[i][j] = i + j;
                } else {
                    int change = table[i - 1][j - 1] + (from.charAt(i - 1) == to.charAt(j - 1) ? 0 : 1);
                    table[i][j] = Math.min(change, Math.min(table[i - 1][j], table[i][j - 1]) + 1);
                }
            }
        }
        return table[from.length()][to.length()];
    }

    private boolean wasMoved(Place named, int page, int heading) {
        for (Entry entry : memory) {
            if (entry.place.equals(named)) {
                for (Section section : sections(page)) {
                    if (section.heading == heading && section.digest == entry.digest) {
                        return true;
                    }
                }
            }
        }
        return false;
    }

    private Repair cheapest(Place named) {
        List<Repair> candidates = new ArrayList<>();
        for (int page = 0; page < 12; page++) {
            if (sources[page] == null) {
                continue;
            }
            int away = page == named.page ? 0 : 4;
            int plain = named.anchor == null ? 4 + Math.abs(page - named.page) : 6 + away;
            candidates.add(new Repair(plain, new Place(page, null), NONE));
            if (named.anchor == null) {
                continue;
            }
            List<Heading> headings = headings(page);
            for (int heading = 0; heading < headings.size(); heading++) {
                String anchor = headings.get(heading).anchor;
                int cost = 2 * steps(named.anchor, anchor) + away;
                cost = wasMoved(named, page, heading) ? Math.min(1, cost) : cost;
                candidates.add(new Repair(cost, new Place(page, anchor), heading));
            }
        }
        Repair best = candidates.get(0);
        for (Repair candidate : candidates) {
            best = candidate.cost < best.cost ? candidate : best;
        }
        return best;
    }

    int repair(int page, int link, int what) {
        if (noLink(page, link)) {
            return NO_SUCH;
        }
        if (what < 0 || what > 2) {
            return BAD_VALUE;
        }
        if (resolve(links(page).get(link)).kind < CIRCULAR) {
            return NOT_POSSIBLE;
        }
        Repair best = cheapest(links(page).get(link));
        return what == 0 ? best.cost : what == 1 ? best.place.page : best.heading;
    }

    private String rewritten(int page, int link, Place place) {
        String letter = place.anchor != null && place.page == page ? "" : "" + (char) ('A' + place.page);
        String text = "[" + letter + (place.anchor == null ? "" : "#" + place.anchor) + "]";
        Matcher matcher = TARGET.matcher(sources[page]);
        for (int met = 0; met <= link; met++) {
            matcher.find();
        }
        return sources[page].substring(0, matcher.start()) + text + sources[page].substring(matcher.end());
    }

    private int write(int page, String source) {
        if (source.length() > 160) {
            return TOO_MANY;
        }
        save();
        sources[page] = source;
        return source.length();
    }

    int mend(int page, int link) {
        if (noLink(page, link)) {
            return NO_SUCH;
        }
        Place named = links(page).get(link);
        if (resolve(named).kind < CIRCULAR) {
            return NOT_POSSIBLE;
        }
        return write(page, rewritten(page, link, cheapest(named).place));
    }

    int mendAll() {
        Saved before = copy();
        int mended = 0;
        for (int page = 0; page < 12; page++) {
            for (int link = 0; link < links(page).size(); link++) {
                Place named = links(page).get(link);
                if (resolve(named).kind >= CIRCULAR) {
                    String source = rewritten(page, link, cheapest(named).place);
                    if (source.length() <= 160) {
                        sources[page] = source;
                        mended++;
                    }
                }
            }
        }
        if (mended > 0) {
            keep(before);
        }
        return mended;
    }

    int straighten(int page, int link) {
        if (noLink(page, link)) {
            return NO_SUCH;
        }
        End end = resolve(links(page).get(link));
        return end.kind != REDIRECTED ? NOT_POSSIBLE : write(page, rewritten(page, link, end.place));
    }

    // ---- saving

    private Saved copy() {
        return new Saved(sources.clone(), new ArrayList<>(redirects), new ArrayList<>(memory));
    }

    private void save() {
        keep(copy());
    }

    private void keep(Saved saved) {
        history.addLast(saved);
        if (history.size() > 10) {
            history.removeFirst();
        }
    }

    int undo() {
        if (history.isEmpty()) {
            return NOT_POSSIBLE;
        }
        Saved saved = history.removeLast();
        sources = saved.sources;
        redirects = saved.redirects;
        memory = saved.memory;
        return history.size();
    }

    int count(int what) {
        return switch (what) {
            case 0 -> withSource();
            case 1 -> pad.length();
            case 2 -> redirects.size();
            case 3 -> memory.size();
            case 4 -> ends().size();
            case 5 -> (int) ends().stream().filter(end -> end.kind >= CIRCULAR).count();
            case 6 -> history.size();
            default -> BAD_VALUE;
        };
    }
}
