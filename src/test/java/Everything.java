import java.util.ArrayList;
import java.util.List;

/**
 * All that can be asked of an object at the end of a run, as a list of calls with their answers. A
 * new object goes on when one has had its 512 calls: none of the questions changes anything.
 */
final class Everything {
    private static final int PAGES = 12;
    // What is left then is enough to try the pad as a source and to read it.
    private static final int RUN_MOST = Run.CALLS_MOST - 170;

    private final Run run;
    private final List<String> seen = new ArrayList<>();
    private LinkAuditor x;
    private int calls;

    private Everything(Run run) {
        this.run = run;
        renew();
    }

    static List<String> after(Run run) {
        Everything all = new Everything(run);
        all.askWhole();
        for (int page = 0; page < PAGES; page++) {
            all.askPage(page);
        }
        all.askRedirects();
        all.askMemory();
        all.seen.addAll(padAfter(run));
        return all.seen;
    }

    /**
     * The pad cannot be read, but tried: as the source of a page, as it is or with a name, a bracket
     * or a brace behind it, and as a redirect.
     */
    private static List<String> padAfter(Run run) {
        List<String> seen = new ArrayList<>();
        for (String end : new String[] {"", "q", "]", "}"}) {
            Run tried = run.typed(end).and("load", x -> x.load(PAGES - 1));
            int lines = tried.answer();
            seen.add("the pad with '" + end + "' as a page has " + lines + " lines");
            if (lines > 0) {
                seen.add(Check.source(tried.made(), 'L'));
            }
        }
        Run tried = run.and("redirect", LinkAuditor::redirect);
        int redirects = tried.answer();
        seen.add("the pad as a redirect: " + redirects);
        for (int what = 0; what < 4 && redirects > 0; what++) {
            seen.add("property " + what + " is " + tried.made().redirection(redirects - 1, what));
        }
        return seen;
    }

    private void renew() {
        x = run.made();
        calls = run.calls();
        if (calls > RUN_MOST) {
            throw new IllegalStateException("too few calls are left for questions");
        }
    }

    private int ask(String text, Run.Call call) {
        if (calls >= Run.CALLS_MOST) {
            renew();
        }
        calls++;
        int answer = call.on(x);
        seen.add(text + " = " + answer);
        return answer;
    }

    private int ask(String name, int a, Run.Call call) {
        return ask(name + "(" + a + ")", call);
    }

    private int ask(String name, int a, int b, Run.Call call) {
        return ask(name + "(" + a + ", " + b + ")", call);
    }

    private int ask(String name, int a, int b, int c, Run.Call call) {
        return ask(name + "(" + a + ", " + b + ", " + c + ")", call);
    }

    private void askWhole() {
        for (int number = 0; number <= 6; number++) {
            int what = number;
            ask("count", what, y -> y.count(what));
        }
        for (int number = 0; number <= 4; number++) {
            int what = number;
            ask("tally", what, y -> y.tally(what));
        }
        ask("fault", 0, y -> y.fault(0));
        ask("fault", 1, y -> y.fault(1));
        ask("cycles", 0, LinkAuditor::cycles);
    }

    private void askPage(int page) {
        ask("reach", page, 0, y -> y.reach(page, 0));
        ask("reach", page, 1, y -> y.reach(page, 1));
        int length = ask("character", page, -1, y -> y.character(page, -1));
        for (int number = 0; number < length; number++) {
            int index = number;
            ask("character", page, index, y -> y.character(page, index));
        }
        int[] about = new int[8];
        for (int number = 0; number < 8; number++) {
            int what = number;
            about[what] = ask("about", page, what, y -> y.about(page, what));
        }
        for (int heading = 0; heading < about[2]; heading++) {
            askHeading(page, heading);
        }
        for (int section = 0; section < about[3]; section++) {
            askParts("section", page, section, 3, (y, part, what) -> y.section(page, part, what));
        }
        for (int link = 0; link < about[4]; link++) {
            askParts("link", page, link, 6, (y, part, what) -> y.link(page, part, what));
            askParts("repair", page, link, 3, (y, part, what) -> y.repair(page, part, what));
        }
    }

    private interface Property {
        int of(LinkAuditor y, int part, int what);
    }

    private int[] askParts(String name, int page, int part, int properties, Property property) {
        int[] answers = new int[properties];
        for (int number = 0; number < properties; number++) {
            int what = number;
            answers[what] = ask(name, page, part, what, y -> property.of(y, part, what));
        }
        return answers;
    }

    private void askHeading(int page, int heading) {
        int[] answers = askParts("heading", page, heading, 13, (y, part, what) -> y.heading(page, part, what));
        for (int number = 0; number <= answers[2]; number++) {
            int index = number;
            ask("anchor", page, heading, index, y -> y.anchor(page, heading, index));
        }
    }

    private void askRedirects() {
        int redirects = ask("count", 2, y -> y.count(2));
        for (int number = 0; number < redirects; number++) {
            int redirect = number;
            for (int property = 0; property < 5; property++) {
                int what = property;
                ask("redirection", redirect, what, y -> y.redirection(redirect, what));
            }
        }
    }

    private void askMemory() {
        int entries = ask("memory", -1, 0, y -> y.memory(-1, 0));
        for (int number = 0; number <= entries; number++) {
            int entry = number;
            for (int property = 0; property < 4; property++) {
                int what = property;
                ask("memory", entry, what, y -> y.memory(entry, what));
            }
        }
    }
}
