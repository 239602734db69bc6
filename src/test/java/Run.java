import java.util.ArrayList;
import java.util.List;

/**
 * A run of calls that can be made again on a new object as often as it is wanted. A run is never
 * changed: and() and its like give a longer one.
 */
final class Run {
    /** What the document promises one object. */
    static final int CALLS_MOST = 512;

    interface Call {
        int on(LinkAuditor x);
    }

    private final List<Call> calls;
    private final String last;

    Run() {
        this(new ArrayList<>(), "nothing");
    }

    private Run(List<Call> calls, String last) {
        this.calls = calls;
        this.last = last;
        if (calls.size() > CALLS_MOST) {
            throw new IllegalStateException("a run of more than 512 calls, the last one " + last);
        }
    }

    Run and(String text, Call call) {
        List<Call> more = new ArrayList<>(calls);
        more.add(call);
        return new Run(more, text);
    }

    /** Appends a text to the pad, 8 characters a call. */
    Run typed(String text) {
        List<Call> more = new ArrayList<>(calls);
        for (int from = 0; from < text.length(); from += 8) {
            long characters = Check.packed(text.substring(from, Math.min(from + 8, text.length())));
            more.add(x -> x.put(characters));
        }
        return new Run(more, "put " + text);
    }

    Run loaded(char page, String source) {
        return typed(source).and("load " + page, x -> x.load(page - 'A'));
    }

    Run redirected(String text) {
        return typed(text).and("redirect " + text, LinkAuditor::redirect);
    }

    Run removed(char page) {
        return and("remove " + page, x -> x.remove(page - 'A'));
    }

    Run undone(int times) {
        Run run = this;
        for (int time = 0; time < times; time++) {
            run = run.and("undo", LinkAuditor::undo);
        }
        return run;
    }

    int calls() {
        return calls.size();
    }

    String last() {
        return last;
    }

    /** A new object on which all calls were made. */
    LinkAuditor made() {
        LinkAuditor x = new LinkAuditor();
        for (Call call : calls) {
            call.on(x);
        }
        return x;
    }

    /** What the last call answers. */
    int answer() {
        LinkAuditor x = new LinkAuditor();
        int answer = 0;
        for (Call call : calls) {
            answer = call.on(x);
        }
        return answer;
    }
}
