import java.util.ArrayList;
import java.util.List;

/** The boundaries of undo() and count(), of what a refused call leaves as it was, and of the 512 calls. */
public final class SavingBoundsTest {
    private static final Check CHECK = new Check();
    private static final int NO_SUCH = -1, BAD_VALUE = -2, BAD_TEXT = -3, TOO_MANY = -4, NOT_POSSIBLE = -5, NONE = -6;
    private static final int[] FAR = {-1, -2, 12, 40, 100, 160, 256, Integer.MIN_VALUE, Integer.MAX_VALUE};

    public static void main(String[] args) {
        undoOfNothing();
        eachKindOfChange();
        whatIsNoChange();
        tenChanges();
        elevenChanges();
        undoOfAFullMemory();
        undoAndChangeAgain();
        undoLeavesThePad();
        countErrors();
        countsOfNothing();
        refusedCallsWithTenChanges();
        refusedCallsOfANewObject();
        farNumbersEverywhere();
        the512thCall();
        objectsOfTheirOwn();
        CHECK.end("SavingBoundsTest");
    }

    private static void same(String what, List<String> got, List<String> due) {
        int same = 0;
        while (same < got.size() && same < due.size() && got.get(same).equals(due.get(same))) {
            same++;
        }
        CHECK.same(what, same < got.size() ? got.get(same) : "nothing", same < due.size() ? due.get(same) : "nothing");
    }

    /** Everything but how many changes can be undone. */
    private static List<String> state(Run run) {
        List<String> seen = new ArrayList<>(Everything.after(run));
        seen.removeIf(line -> line.startsWith("count(6)"));
        return seen;
    }

    /** Pages with links of each kind, redirects and a memory, by 8 changes. */
    private static Run some() {
        return new Run().loaded('B', "=b;p;{A+1}").loaded('C', "=c;q").loaded('A', "=abc;[#abd],[D],[E],[B#b];r;=s;{C}")
            .removed('C').redirected("D>B").redirected("E#e>A").loaded('B', "=bb;p").redirected("F>E");
    }

    /** "NOT_POSSIBLE if there is none." */
    private static void undoOfNothing() {
        Run[] runs = {new Run(), new Run().typed("=a;[A]"), new Run().loaded('A', "a").undone(1),
            new Run().redirected("A>B").and("unredirect", x -> x.unredirect(0)).undone(2)};
        for (Run run : runs) {
            CHECK.is("24 nothing to undo", run.made().count(6), 0);
            new Refusals(CHECK, "24 behind " + run.last(), run).refused("undo", NOT_POSSIBLE, LinkAuditor::undo);
        }
        Run one = new Run().loaded('A', "a");
        CHECK.is("24 one can be undone", one.undone(1).answer(), 0);
        CHECK.is("24 and no more", one.undone(2).answer(), NOT_POSSIBLE);
        CHECK.is("24 nor then", one.undone(3).answer(), NOT_POSSIBLE);
    }

    /** "load, remove, mend, each mendAll that mended something, straighten, redirect, unredirect": one change each. */
    private static void eachKindOfChange() {
        Run before = some();
        CHECK.is("24 before", before.made().count(6), 8);
        Run[] changed = {before.loaded('A', "=x;y"), before.loaded('L', "=x;y"), before.loaded('B', "=bb;p"),
            before.removed('A'), before.and("mend", x -> x.mend(0, 0)), before.and("mendAll", LinkAuditor::mendAll),
            before.and("straighten", x -> x.straighten(0, 1)), before.redirected("L>A"),
            before.and("unredirect first", x -> x.unredirect(0)), before.and("unredirect last", x -> x.unredirect(2))};
        List<String> due = Everything.after(before);
        for (Run run : changed) {
            CHECK.is("24 it was not refused: " + run.last(), run.answer() >= 0 ? 1 : 0, 1);
            CHECK.is("24 one change by " + run.last(), run.made().count(6), 9);
            CHECK.is("24 undo of " + run.last(), run.undone(1).answer(), 8);
            same("24 undo of " + run.last(), Everything.after(run.undone(1)), due);
            for (int times = 1; times <= 8; times++) {
                same("24 undo before " + run.last(), Everything.after(run.undone(1 + times)),
                    Everything.after(before.undone(times)));
            }
        }
    }

    /** What is not named there is no change: the pad, a question, a mendAll that mended nothing, undo itself. */
    private static void whatIsNoChange() {
        Run before = some();
        Run[] unchanged = {before.typed("=x;y"), before.typed("q").and("wipe", LinkAuditor::wipe), before.undone(8),
            before.and("fault", x -> x.fault(0)), before.and("cycles", LinkAuditor::cycles),
            before.and("repair", x -> x.repair(0, 0, 0)), before.and("tally", x -> x.tally(0))};
        for (Run run : unchanged) {
            int due = run.last().equals("undo") ? 0 : 8;
            CHECK.is("24 changes behind " + run.last(), run.made().count(6), due);
        }
        Run mended = before.and("mendAll", LinkAuditor::mendAll);
        CHECK.is("24 mendAll", mended.answer(), 3);
        CHECK.is("24 a change", mended.made().count(6), 9);
        Run again = mended.and("mendAll again", LinkAuditor::mendAll);
        CHECK.is("24 nothing is mended", again.answer(), 0);
        CHECK.is("24 no change", again.made().count(6), 9);
        same("24 undo", Everything.after(again.undone(1)), Everything.after(before));
    }

    /** Twelve changes of all kinds; the run behind each of them, the empty one first. */
    private static List<Run> twelveChanges() {
        List<Run> runs = new ArrayList<>();
        runs.add(new Run());
        runs.add(last(runs).loaded('B', "=b;p;{A+1}"));
        runs.add(last(runs).loaded('A', "=abc;[#abd],[D],[E],[B#b];r;=s;{C}"));
        runs.add(last(runs).redirected("D>B"));
        runs.add(last(runs).and("straighten", x -> x.straighten(0, 1)));
        runs.add(last(runs).loaded('B', "=bb;p;[#zz]"));
        runs.add(last(runs).redirected("E#e>A"));
        runs.add(last(runs).and("mend", x -> x.mend(0, 0)));
        runs.add(last(runs).and("unredirect", x -> x.unredirect(0)));
        runs.add(last(runs).removed('B'));
        runs.add(last(runs).and("mendAll", LinkAuditor::mendAll));
        runs.add(last(runs).loaded('L', "=abc;[A#abc]"));
        runs.add(last(runs).redirected("K#k-9>L#abc"));
        return runs;
    }

    private static Run last(List<Run> runs) {
        return runs.get(runs.size() - 1);
    }

    /** "undo() removes the latest one, and all sources, redirects and the memory become what they were before it". */
    private static void tenChanges() {
        List<Run> runs = twelveChanges();
        for (int changes = 0; changes <= 10; changes++) {
            Run run = runs.get(changes);
            CHECK.is("24 " + run.last(), run.answer() >= 0 ? 1 : 0, 1);
            CHECK.is("24 changes", run.made().count(6), changes);
            for (int times = 1; times <= changes; times++) {
                CHECK.is("24 left", run.undone(times).answer(), changes - times);
                same("24 " + changes + " changes, " + times + " undone", Everything.after(run.undone(times)),
                    Everything.after(runs.get(changes - times)));
            }
            CHECK.is("24 no more", run.undone(changes + 1).answer(), NOT_POSSIBLE);
            same("24 as at first", Everything.after(run.undone(changes + 1)), Everything.after(new Run()));
        }
    }

    /** "A history of at most 10 changes is kept: when one more is recorded, the oldest one is dropped". */
    private static void elevenChanges() {
        List<Run> runs = twelveChanges();
        for (int changes = 11; changes <= 12; changes++) {
            Run run = runs.get(changes);
            CHECK.is("24 " + run.last(), run.answer() >= 0 ? 1 : 0, 1);
            CHECK.is("24 changes", run.made().count(6), 10);
            for (int times = 1; times <= 10; times++) {
                CHECK.is("24 left", run.undone(times).answer(), 10 - times);
                same("24 " + changes + " changes, " + times + " undone", state(run.undone(times)),
                    state(runs.get(changes - times)));
            }
            CHECK.is("24 the oldest is dropped", run.undone(11).answer(), NOT_POSSIBLE);
            same("24 nothing happens", Everything.after(run.undone(11)), Everything.after(run.undone(10)));
            CHECK.is("24 B has its source", run.undone(11).made().count(0) & 2, 2);
        }
    }

    /** Entries that moved up, went as the oldest ones or were removed first are back in their places. */
    private static void undoOfAFullMemory() {
        List<Run> runs = new ArrayList<>();
        Run first = new Run().loaded('A', "=a;p;=bb;q;=ccc;r").loaded('B', "=a;s;=dddd;t").loaded('C', "=e;u").redirected("D>E");
        // Five pages with seven sections each, so that 41 entries come together.
        for (char page = 'G'; page <= 'K'; page++) {
            StringBuilder seven = new StringBuilder("x");
            for (int number = 0; number < 7; number++) {
                seven.append(";=").append((char) (page + 32)).append(number).append(";z").append(number);
            }
            first = first.loaded(page, seven.toString());
        }
        runs.add(first.removed('G'));
        runs.add(last(runs).removed('B'));
        runs.add(last(runs).removed('A'));
        runs.add(last(runs).loaded('B', "=a;v"));
        runs.add(last(runs).removed('B'));
        for (char page = 'H'; page <= 'K'; page++) {
            runs.add(last(runs).removed(page));
        }
        runs.add(last(runs).removed('C'));
        runs.add(last(runs).loaded('B', "=dddd;w"));
        CHECK.is("19 full", last(runs).made().memory(-1, 0), 40);
        CHECK.is("19 the oldest one is gone", last(runs).made().memory(0, 1), Digests.of(";z1"));
        for (int times = 1; times <= 10; times++) {
            same("24 the memory, " + times + " undone", state(last(runs).undone(times)), state(runs.get(runs.size() - 1 - times)));
        }
    }

    /** A change behind undo() takes the place of the one that was undone. */
    private static void undoAndChangeAgain() {
        List<Run> runs = twelveChanges();
        for (int times : new int[] {1, 5, 9, 10}) {
            Run undone = last(runs).undone(times);
            Run again = undone.loaded('K', "=k;[L]");
            CHECK.is("24 behind " + times, again.made().count(6), 10 - times + 1);
            CHECK.is("24 undone again", again.undone(1).answer(), 10 - times);
            same("24 undone again", Everything.after(again.undone(1)), Everything.after(undone));
            Run more = again;
            for (int number = 0; number < times; number++) {
                more = more.loaded('J', "=j" + number);
            }
            CHECK.is("24 full again", more.made().count(6), 10);
            same("24 the last ones", state(more.undone(times)), state(again));
        }
    }

    /** The pad is none of "all sources, redirects and the memory". */
    private static void undoLeavesThePad() {
        LinkAuditor x = new Run().loaded('A', "=a").typed("=b;c").made();
        CHECK.is("24 undo", x.undo(), 0);
        CHECK.is("24 the pad", x.count(1), 4);
        CHECK.is("24 it can be loaded", x.load(0), 2);
        CHECK.same("24 the source", Check.source(x, 'A'), "=b;c");
        CHECK.is("24 undo", x.undo(), 0);
        CHECK.is("24 the pad does not come back", x.count(1), 0);
        x = new Run().redirected("A>B").undone(1).made();
        CHECK.is("24 nor that of a redirect", x.count(1), 0);
        x = new Run().loaded('A', "=a").typed("a".repeat(160)).undone(1).made();
        CHECK.is("24 a full one stays", x.count(1), 160);
        CHECK.is("24 and is full", x.put('b'), TOO_MANY);
    }

    /** count: what from 0 to 6, "BAD_VALUE if what is out of range". */
    private static void countErrors() {
        Run run = some().typed("pad");
        Refusals refusals = new Refusals(CHECK, "25", run);
        for (int what : new int[] {-1, 7, 8, Integer.MIN_VALUE, Integer.MAX_VALUE}) {
            refusals.refused("count(" + what + ")", BAD_VALUE, x -> x.count(what));
        }
        int[] due = {3, 3, 3, 2, 4, 3, 8};
        for (int what = 0; what <= 6; what++) {
            int number = what;
            refusals.refused("count(" + what + ")", due[what], x -> x.count(number));
        }
    }

    /** What each count is where there is none, and at its most. */
    private static void countsOfNothing() {
        for (Run run : new Run[] {new Run(), new Run().loaded('A', "=a;[A]").redirected("B>A").undone(2)}) {
            for (int what = 0; what <= 6; what++) {
                CHECK.is("25 count(" + what + ")", run.made().count(what), 0);
            }
        }
        Run most = new Run();
        for (char page = 'A'; page <= 'L'; page++) {
            most = most.loaded(page, "[A],".repeat(6) + "[" + page + "];=p;q;=r;s;=t;u;=v;w");
        }
        for (char page = 'A'; page <= 'L'; page++) {
            most = most.removed(page).redirected(page + "#a>A");
        }
        LinkAuditor x = most.typed("a".repeat(160)).made();
        int[] due = {0, 160, 12, 40, 0, 0, 10};
        for (int what = 0; what <= 6; what++) {
            CHECK.is("25 the most: count(" + what + ")", x.count(what), due[what]);
        }
    }

    /** "A call that returns an error code changes nothing", with a full history, pad, memory and all redirects. */
    private static void refusedCallsWithTenChanges() {
        String longest = "=abc;[#ab],[D],[#abc]" + ",m".repeat(69) + "n";
        Run run = new Run().loaded('C', "=p;x;=q;y");
        for (int round = 0; round < 5; round++) {
            StringBuilder ten = new StringBuilder("x");
            for (int number = 0; number < 10; number++) {
                ten.append(";=n").append(10 * round + number).append(";z");
            }
            run = run.loaded('C', ten.toString());
        }
        for (int redirect = 0; redirect < 11; redirect++) {
            run = run.redirected("A#n" + redirect + ">B");
        }
        run = run.removed('C').loaded('B', "=b").redirected("D>B#b").loaded('A', longest);
        LinkAuditor x = run.made();
        int[] due = {3, 0, 12, 40, 3, 1, 10};
        for (int what = 0; what <= 6; what++) {
            CHECK.is("25 count(" + what + ")", x.count(what), due[what]);
        }
        CHECK.is("25 a full source", x.character(0, -1), 160);
        Refusals refusals = new Refusals(CHECK, "full", run);
        refusals.refused("put", BAD_VALUE, y -> y.put(0));
        refusals.refused("fault", BAD_VALUE, y -> y.fault(2));
        refusals.refused("load(12)", NO_SUCH, y -> y.load(12));
        refusals.refused("load(0)", BAD_TEXT, y -> y.load(0));
        refusals.refused("remove(-1)", NO_SUCH, y -> y.remove(-1));
        refusals.refused("remove(2)", NOT_POSSIBLE, y -> y.remove(2));
        refusals.refused("redirect", BAD_TEXT, LinkAuditor::redirect);
        refusals.refused("unredirect(12)", NO_SUCH, y -> y.unredirect(12));
        refusals.refused("repair(0, 2, 0)", NOT_POSSIBLE, y -> y.repair(0, 2, 0));
        refusals.refused("mend(0, 0)", TOO_MANY, y -> y.mend(0, 0));
        refusals.refused("mend(0, 1)", NOT_POSSIBLE, y -> y.mend(0, 1));
        refusals.refused("mend(0, 3)", NO_SUCH, y -> y.mend(0, 3));
        refusals.refused("mendAll", 0, LinkAuditor::mendAll);
        refusals.refused("straighten(0, 1)", TOO_MANY, y -> y.straighten(0, 1));
        refusals.refused("straighten(0, 0)", NOT_POSSIBLE, y -> y.straighten(0, 0));
        refusals.refused("straighten(1, 0)", NO_SUCH, y -> y.straighten(1, 0));
        Refusals page = new Refusals(CHECK, "full, a page in the pad", run.typed("=abcd;" + "{A};".repeat(38) + "zz"));
        page.refused("load(-1)", NO_SUCH, y -> y.load(-1));
        page.refused("redirect", BAD_TEXT, LinkAuditor::redirect);
        page.refused("put", TOO_MANY, y -> y.put('a'));
        Refusals redirect = new Refusals(CHECK, "full, a redirect in the pad", run.typed("E>F"));
        redirect.refused("redirect", TOO_MANY, LinkAuditor::redirect);
        redirect.refused("load(0)", BAD_TEXT, y -> y.load(0));
        Refusals again = new Refusals(CHECK, "full, an old redirect in the pad", run.typed("A#n10>F"));
        again.refused("redirect", NOT_POSSIBLE, LinkAuditor::redirect);
    }

    /** The same on a new object, where there is nothing of anything. */
    private static void refusedCallsOfANewObject() {
        Refusals refusals = new Refusals(CHECK, "new", new Run());
        refusals.refused("put", BAD_VALUE, x -> x.put(0));
        refusals.refused("fault", BAD_VALUE, x -> x.fault(-1));
        refusals.refused("load", BAD_TEXT, x -> x.load(0));
        refusals.refused("redirect", BAD_TEXT, LinkAuditor::redirect);
        refusals.refused("unredirect", NO_SUCH, x -> x.unredirect(0));
        refusals.refused("redirection", NO_SUCH, x -> x.redirection(0, 0));
        refusals.refused("memory", NONE, x -> x.memory(0, 0));
        refusals.refused("mendAll", 0, LinkAuditor::mendAll);
        refusals.refused("undo", NOT_POSSIBLE, LinkAuditor::undo);
        for (int number = 0; number < 12; number++) {
            int page = number;
            refusals.refused("remove", NOT_POSSIBLE, x -> x.remove(page));
            refusals.refused("character", NOT_POSSIBLE, x -> x.character(page, 0));
            refusals.refused("about", NOT_POSSIBLE, x -> x.about(page, 0));
            refusals.refused("heading", NO_SUCH, x -> x.heading(page, 0, 0));
            refusals.refused("anchor", NO_SUCH, x -> x.anchor(page, 0, 0));
            refusals.refused("section", NO_SUCH, x -> x.section(page, 0, 0));
            refusals.refused("link", NO_SUCH, x -> x.link(page, 0, 0));
            refusals.refused("repair", NO_SUCH, x -> x.repair(page, 0, 0));
            refusals.refused("mend", NO_SUCH, x -> x.mend(page, 0));
            refusals.refused("straighten", NO_SUCH, x -> x.straighten(page, 0));
        }
    }

    /** Numbers far outside, in every place of every call: each is refused, and no call throws. */
    private static void farNumbersEverywhere() {
        Run run = some().typed("=x;y");
        LinkAuditor x = run.made();
        List<String> due = Everything.after(run);
        for (int a : FAR) {
            CHECK.is("far fault", x.fault(a), BAD_VALUE);
            CHECK.is("far load", x.load(a), NO_SUCH);
            CHECK.is("far remove", x.remove(a), NO_SUCH);
            CHECK.is("far unredirect", x.unredirect(a), NO_SUCH);
            CHECK.is("far tally", x.tally(a), BAD_VALUE);
            CHECK.is("far count", x.count(a), BAD_VALUE);
        }
        for (int a : FAR) {
            LinkAuditor y = run.made();
            for (int b : FAR) {
                CHECK.is("far character", y.character(a, b), NO_SUCH);
                CHECK.is("far about", y.about(a, b), NO_SUCH);
                CHECK.is("far redirection", y.redirection(a, b), NO_SUCH);
                CHECK.is("far reach", y.reach(a, b), NO_SUCH);
                CHECK.is("far memory", y.memory(a, b), BAD_VALUE);
                CHECK.is("far mend", y.mend(a, b), NO_SUCH);
                CHECK.is("far straighten", y.straighten(a, b), NO_SUCH);
                CHECK.is("far mend", y.mend(0, b), NO_SUCH);
                CHECK.is("far straighten", y.straighten(0, b), NO_SUCH);
                for (int c : new int[] {-1, 0, 99, Integer.MIN_VALUE, Integer.MAX_VALUE}) {
                    CHECK.is("far heading", y.heading(a, b, c), NO_SUCH);
                    CHECK.is("far anchor", y.anchor(a, b, c), NO_SUCH);
                    CHECK.is("far section", y.section(a, b, c), NO_SUCH);
                    CHECK.is("far link", y.link(a, b, c), NO_SUCH);
                    CHECK.is("far repair", y.repair(a, b, c), NO_SUCH);
                }
                y = run.made();
            }
        }
        Run all = run;
        for (int number : FAR) {
            all = all.and("load", y -> y.load(number)).and("remove", y -> y.remove(number))
                .and("unredirect", y -> y.unredirect(number)).and("mend", y -> y.mend(number, 0))
                .and("mend", y -> y.mend(0, number)).and("straighten", y -> y.straighten(number, 0))
                .and("straighten", y -> y.straighten(0, number));
        }
        same("far: nothing has changed", Everything.after(all), due);
    }

    /** "An object is used for at most 512 calls after it has been made": the 512th is still answered as due. */
    private static void the512thCall() {
        Run asking = some();
        while (asking.calls() < Run.CALLS_MOST - 1) {
            asking = asking.and("count", x -> x.count(5));
        }
        CHECK.is("511 calls", asking.calls(), 511);
        CHECK.is("the 511th call", asking.answer(), 3);
        CHECK.is("the 512th call", asking.and("count", x -> x.count(6)).answer(), 8);
        CHECK.is("the 512th call", asking.and("mendAll", LinkAuditor::mendAll).answer(), 3);
        CHECK.is("the 512th call", asking.undone(1).answer(), 7);
        CHECK.is("the 512th call", asking.removed('A').answer(), 2);
        Run changing = new Run().loaded('A', "=a;[B]");
        while (changing.calls() + 2 < Run.CALLS_MOST) {
            changing = changing.removed('A').undone(1);
        }
        CHECK.is("changes that were undone", changing.made().count(6), 1);
        CHECK.is("one more", changing.removed('A').answer(), 0);
        // 21 calls for each of 24 full sources, and 8 calls more.
        Run typing = new Run();
        for (int round = 0; round < 24; round++) {
            typing = typing.loaded((char) ('A' + round % 12), "a;".repeat(79) + "zz");
        }
        Run end = typing.loaded('A', "=a;[B];=b;[#a]").removed('L').undone(2).and("mendAll", LinkAuditor::mendAll);
        CHECK.is("calls", end.calls(), 511);
        CHECK.is("the 512th call", end.and("count", x -> x.count(0)).answer(), 4095);
        CHECK.is("the 512th call", end.and("count", x -> x.count(6)).answer(), 8);
        CHECK.is("the 512th call", end.and("character", x -> x.character(0, 159)).answer(), 'z');
    }

    /** Two objects share nothing. */
    private static void objectsOfTheirOwn() {
        LinkAuditor x = some().typed("pad").made();
        LinkAuditor y = new LinkAuditor();
        for (int what = 0; what <= 6; what++) {
            CHECK.is("1 another object: count(" + what + ")", y.count(what), 0);
        }
        Check.load(y, 'A', "z");
        y.mendAll();
        CHECK.is("1 the pad of the first one", x.wipe(), 3);
        CHECK.is("1 its changes", x.count(6), 8);
        CHECK.is("1 its sources", x.count(0), 3);
    }
}
