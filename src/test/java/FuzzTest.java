import java.util.ArrayList;
import java.util.List;
import java.util.Random;

/** Long runs of calls, made by fixed seeds, answered by LinkAuditor and by Model alike. */
public final class FuzzTest {
    // More than the document promises for one object: nothing here gets worse with time.
    private static final int CALLS = 1500;
    private static final String[] STYLES = {"mixed", "anchors", "includes", "redirects", "full", "moved", "noise"};

    private final Random random;
    private final String style;
    private final LinkAuditor auditor = new LinkAuditor();
    private final Model model = new Model();
    private final List<String> calls = new ArrayList<>();
    private boolean wrong = false;

    private FuzzTest(long seed, String style) {
        this.random = new Random(seed);
        this.style = style;
    }

    public static void main(String[] args) {
        int runs = args.length > 0 ? Integer.parseInt(args[0]) : 20;
        int first = args.length > 1 ? Integer.parseInt(args[1]) : 0;
        int failures = 0;
        for (int seed = first; seed < first + runs; seed++) {
            for (String style : STYLES) {
                if (!new FuzzTest(seed, style).run()) {
                    System.out.println("seed " + seed + ", style " + style);
                    failures++;
                }
            }
            if (failures > 3) {
                break;
            }
        }
        System.out.println(failures == 0 ? "fuzz: all runs agree" : "fuzz: " + failures + " runs differ");
        System.exit(failures == 0 ? 0 : 1);
    }

    private boolean run() {
        while (calls.size() < CALLS && !wrong) {
            act();
        }
        if (wrong) {
            calls.forEach(System.out::println);
        }
        return !wrong;
    }

    private int below(int bound) {
        return random.nextInt(bound);
    }

    private boolean chance(int percent) {
        return below(100) < percent;
    }

    /** A number mostly from 0 to bound - 1, and sometimes far or just outside. */
    private int near(int bound) {
        if (chance(94)) {
            return below(bound);
        }
        int[] odd = {-1, -2, bound, bound + 1, Integer.MAX_VALUE, Integer.MIN_VALUE, -6, 31, 32, 64};
        return odd[below(odd.length)];
    }

    private int pages() {
        return style.equals("mixed") || style.equals("noise") ? 5 : style.equals("redirects") ? 7 : 12;
    }

    private int page() {
        int page = below(pages());
        for (int tries = 0; tries < 4 && (model.count(0) >> page & 1) == 0; tries++) {
            page = below(pages());
        }
        return chance(95) ? page : near(12);
    }

    /** A number of a part of a page that is there, or one from near the bound if none is. */
    private int part(int page, int what, int bound) {
        int there = page >= 0 && page < 12 ? model.about(page, what) : 0;
        return there > 0 ? near(there) : near(bound);
    }

    /** A page and one of its links that is one of the kinds, if tries find one. */
    private int[] linkOf(int lowest, int highest) {
        int page = page();
        int link = part(page, 4, 6);
        for (int tries = 0; tries < 30 && !isBetween(model.link(page, link, 0), lowest, highest); tries++) {
            page = page();
            link = part(page, 4, 6);
        }
        return new int[] {page, link};
    }

    private static boolean isBetween(int number, int lowest, int highest) {
        return number >= lowest && number <= highest;
    }

    private char letter() {
        return (char) ('A' + (chance(95) ? below(pages()) : below(12)));
    }

    private String name() {
        if (chance(70)) {
            String[] few = {"a", "b", "ab", "abc", "intro", "x1", "y"};
            return few[below(style.equals("redirects") ? 3 : few.length)];
        }
        StringBuilder text = new StringBuilder().append((char) ('a' + below(4)));
        int more = below(8);
        for (int index = 0; index < more; index++) {
            text.append(chance(70) ? (char) ('a' + below(3)) : (char) ('0' + below(10)));
        }
        return text.toString();
    }

    private String anchorText() {
        return chance(style.equals("anchors") ? 50 : 25) ? name() + "-" + (1 + below(chance(80) ? 3 : 99)) : name();
    }

    private String place() {
        return letter() + (chance(60) ? "#" + anchorText() : "");
    }

    private String line() {
        int include = style.equals("includes") ? 60 : 12;
        if (chance(include)) {
            String shift = chance(50) ? "+" + below(3) : "";
            return "{" + letter() + shift + "}";
        }
        if (chance(40)) {
            return "===".substring(below(3)) + name();
        }
        StringBuilder text = new StringBuilder();
        int elements = 1 + below(3);
        for (int element = 0; element < elements; element++) {
            text.append(element == 0 ? "" : ",");
            text.append(chance(40) ? name() : chance(30) ? "[#" + anchorText() + "]" : "[" + place() + "]");
        }
        return text.toString();
    }

    /** Sections with few contents and many names, so that the same contents come back elsewhere. */
    private String movedSource() {
        String[] contents = {";p", ";q,r", ";p;q", ";[A]", ";{B}", ";[#zz];s", "", ";[C#a]"};
        StringBuilder text = new StringBuilder();
        int sections = 1 + below(10);
        for (int section = 0; section < sections; section++) {
            text.append(section == 0 ? "" : ";").append("===".substring(below(3))).append(name());
            text.append(contents[below(contents.length)]);
        }
        return text.length() > 160 ? movedSource() : text.toString();
    }

    private String source() {
        if (style.equals("moved") && chance(80)) {
            return movedSource();
        }
        StringBuilder text = new StringBuilder(line());
        int wanted = style.equals("full") ? 120 + below(41) : style.equals("includes") ? 20 + below(141) : below(60);
        while (text.length() < wanted) {
            text.append(';').append(line());
        }
        return text.length() > 160 ? source() : text.toString();
    }

    private String spoilt(String text) {
        StringBuilder result = new StringBuilder(text);
        String signs = "=;,{}[]#-+>aAzZLM0129~!";
        int at = below(result.length());
        switch (below(3)) {
            case 0 -> result.setCharAt(at, signs.charAt(below(signs.length())));
            case 1 -> result.insert(at, signs.charAt(below(signs.length())));
            default -> result.setLength(at);
        }
        return result.toString();
    }

    private void act() {
        int spoil = style.equals("noise") ? 40 : 5;
        if (chance(22)) {
            String text = source();
            type(chance(spoil) ? spoilt(text) : text);
            check(chance(90) ? "load" : "fault", style.equals("redirects") ? below(3) : below(pages()), 0, 0);
            tidy();
        } else if (chance(style.equals("redirects") ? 25 : 6)) {
            String text = place() + ">" + place();
            type(chance(spoil) ? spoilt(text) : text);
            check(chance(90) ? "redirect" : "fault", 1, 0, 0);
            tidy();
        } else {
            ask();
        }
    }

    private void tidy() {
        if (chance(90)) {
            check("wipe", 0, 0, 0);
        }
    }

    private void type(String text) {
        for (int from = 0; from < text.length(); from += 8) {
            long number = 0;
            for (char sign : text.substring(from, Math.min(from + 8, text.length())).toCharArray()) {
                number = number << 8 | sign;
            }
            put(number);
        }
    }

    private void ask() {
        int page = page();
        int[] any = linkOf(chance(30) ? 1 : 0, 4);
        int[] broken = linkOf(2, 4);
        int[] redirected = linkOf(1, 1);
        switch (below(25)) {
            case 0 -> put(chance(50) ? random.nextLong() : 33 + below(94));
            case 1 -> check("fault", near(2), 0, 0);
            case 2 -> check("remove", page, 0, 0);
            case 3 -> check("character", page, chance(10) ? -1 : near(page == 0 ? 160 : 40), 0);
            case 4 -> check("about", page, near(8), 0);
            case 5, 6 -> check("heading", page, part(page, 2, 12), near(13));
            case 7 -> check("anchor", page, part(page, 2, 12), near(6));
            case 8 -> check("section", page, part(page, 3, 8), near(3));
            case 9 -> check("cycles", 0, 0, 0);
            case 10 -> check("unredirect", near(40), 0, 0);
            case 11 -> check("redirection", near(Math.max(1, model.count(2))), near(5), 0);
            case 12, 13, 14 -> check("link", any[0], any[1], near(6));
            case 15 -> check("tally", near(5), 0, 0);
            case 16 -> check("reach", page, near(2), 0);
            case 17 -> check("memory", chance(20) ? -1 : near(Math.max(1, model.count(3))), near(4), 0);
            case 18, 19 -> check("repair", broken[0], broken[1], near(3));
            case 20 -> check("mend", broken[0], broken[1], 0);
            case 21 -> check(chance(20) ? "mendAll" : "count", 5, 0, 0);
            case 22 -> check("straighten", redirected[0], redirected[1], 0);
            case 23 -> check(chance(50) ? "undo" : "count", 4, 0, 0);
            default -> check("count", near(7), 0, 0);
        }
    }

    private void put(long characters) {
        note("put(" + characters + "L)", auditor.put(characters), model.put(characters));
    }

    private void check(String call, int a, int b, int c) {
        String text = call + "(" + a + ", " + b + ", " + c + ")";
        switch (call) {
            case "wipe" -> note(text, auditor.wipe(), model.wipe());
            case "fault" -> note(text, auditor.fault(a), model.fault(a));
            case "load" -> note(text, auditor.load(a), model.load(a));
            case "remove" -> note(text, auditor.remove(a), model.remove(a));
            case "character" -> note(text, auditor.character(a, b), model.character(a, b));
            case "about" -> note(text, auditor.about(a, b), model.about(a, b));
            case "heading" -> note(text, auditor.heading(a, b, c), model.heading(a, b, c));
            case "anchor" -> note(text, auditor.anchor(a, b, c), model.anchor(a, b, c));
            case "section" -> note(text, auditor.section(a, b, c), model.section(a, b, c));
            case "cycles" -> note(text, auditor.cycles(), model.cycles());
            case "redirect" -> note(text, auditor.redirect(), model.redirect());
            case "unredirect" -> note(text, auditor.unredirect(a), model.unredirect(a));
            case "redirection" -> note(text, auditor.redirection(a, b), model.redirection(a, b));
            case "link" -> note(text, auditor.link(a, b, c), model.link(a, b, c));
            case "tally" -> note(text, auditor.tally(a), model.tally(a));
            case "reach" -> note(text, auditor.reach(a, b), model.reach(a, b));
            case "memory" -> note(text, auditor.memory(a, b), model.memory(a, b));
            case "repair" -> note(text, auditor.repair(a, b, c), model.repair(a, b, c));
            case "mend" -> note(text, auditor.mend(a, b), model.mend(a, b));
            case "mendAll" -> note(text, auditor.mendAll(), model.mendAll());
            case "straighten" -> note(text, auditor.straighten(a, b), model.straighten(a, b));
            case "undo" -> note(text, auditor.undo(), model.undo());
            case "count" -> note(text, auditor.count(a), model.count(a));
            default -> throw new IllegalArgumentException(call);
        }
    }

    private void note(String call, int got, int due) {
        calls.add(call + " = " + got);
        if (got != due && !wrong) {
            calls.add("  due is " + due);
            wrong = true;
        }
    }
}
