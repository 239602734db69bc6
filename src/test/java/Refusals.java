import java.util.ArrayList;
import java.util.List;

/**
 * Calls that are refused at the end of a run, or only ask. After each of them everything answers as
 * it did, also behind each undo() that is possible and behind a mendAll().
 */
final class Refusals {
    private final Check check;
    private final String name;
    private final Run before;
    private final List<List<String>> due;

    Refusals(Check check, String name, Run before) {
        this.check = check;
        this.name = name;
        this.before = before;
        this.due = all(before);
    }

    private static List<List<String>> all(Run run) {
        List<List<String>> seen = new ArrayList<>();
        seen.add(Everything.after(run));
        int changes = run.made().count(6);
        for (int times = 1; times <= changes + 1; times++) {
            seen.add(Everything.after(run.undone(times)));
        }
        seen.add(Everything.after(run.and("mendAll", LinkAuditor::mendAll)));
        return seen;
    }

    /** The call answers the code, and nothing has changed. */
    void refused(String text, int code, Run.Call call) {
        Run after = before.and(text, call);
        check.is(name + ": " + text, after.answer(), code);
        List<List<String>> got = all(after);
        check.is(name + ": what can be asked behind " + text, got.size(), due.size());
        for (int stage = 0; stage < due.size() && stage < got.size(); stage++) {
            compare(text, stage, got.get(stage), due.get(stage));
        }
    }

    private void compare(String text, int stage, List<String> got, List<String> wanted) {
        int same = 0;
        while (same < got.size() && same < wanted.size() && got.get(same).equals(wanted.get(same))) {
            same++;
        }
        String gotNext = same < got.size() ? got.get(same) : "nothing";
        String wantedNext = same < wanted.size() ? wanted.get(same) : "nothing";
        check.same(name + ": behind " + text + ", stage " + stage, gotNext, wantedNext);
    }
}
