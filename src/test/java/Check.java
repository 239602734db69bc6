/** Counts the answers of one test that are not as due, and ends it with the exit code 1 if there are any. */
final class Check {
    private int checked = 0;
    private int wrong = 0;

    void is(String what, long got, long due) {
        checked++;
        if (got != due) {
            wrong++;
            System.out.println(what + " answered " + got + ", due is " + due);
        }
    }

    void end(String test) {
        System.out.println(test + ": " + checked + " answers, " + wrong + " of them not as due");
        System.exit(wrong == 0 && checked > 0 ? 0 : 1);
    }

    /** Appends a text to the pad, 8 characters a call. */
    static void type(LinkAuditor x, String text) {
        for (int from = 0; from < text.length(); from += 8) {
            x.put(packed(text.substring(from, Math.min(from + 8, text.length()))));
        }
    }

    static long packed(String text) {
        long number = 0;
        for (char sign : text.toCharArray()) {
            number = number << 8 | sign;
        }
        return number;
    }

    /** Wipes the pad, writes a source into it and loads it; the page is a letter. */
    static int load(LinkAuditor x, char page, String source) {
        x.wipe();
        type(x, source);
        return x.load(page - 'A');
    }

    static int redirect(LinkAuditor x, String text) {
        x.wipe();
        type(x, text);
        return x.redirect();
    }

    static int fault(LinkAuditor x, String text, int as) {
        x.wipe();
        type(x, text);
        return x.fault(as);
    }

    /** The source of a page as a text; null without one. */
    static String source(LinkAuditor x, char page) {
        int length = x.character(page - 'A', -1);
        if (length < 0) {
            return null;
        }
        StringBuilder text = new StringBuilder();
        for (int index = 0; index < length; index++) {
            text.append((char) x.character(page - 'A', index));
        }
        return text.toString();
    }

    static String anchor(LinkAuditor x, char page, int heading) {
        StringBuilder text = new StringBuilder();
        for (int index = 0; x.anchor(page - 'A', heading, index) >= 0; index++) {
            text.append((char) x.anchor(page - 'A', heading, index));
        }
        return text.toString();
    }

    void same(String what, String got, String due) {
        checked++;
        if (got == null ? due != null : !got.equals(due)) {
            wrong++;
            System.out.println(what + " is " + got + ", due is " + due);
        }
    }
}
