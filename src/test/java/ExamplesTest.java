/** The five examples of the document, each on a new object. */
public final class ExamplesTest {
    private static final Check CHECK = new Check();

    public static void main(String[] args) {
        lostLink();
        movedSection();
        redirectOfPage();
        includes();
        faultAndRedirect();
        CHECK.end("ExamplesTest");
    }

    private static void lostLink() {
        LinkAuditor x = new LinkAuditor();
        CHECK.is("1 put", x.put(4426878339795067759L), 8);
        CHECK.is("1 put", x.put(31073698288714333L), 15);
        CHECK.is("1 load", x.load(0), 2);
        CHECK.is("1 about(0, 2)", x.about(0, 2), 1);
        CHECK.is("1 link(0, 0, 0)", x.link(0, 0, 0), 0);
        CHECK.is("1 link(0, 1, 0)", x.link(0, 1, 0), 3);
        CHECK.is("1 repair(0, 1, 0)", x.repair(0, 1, 0), 5);
        CHECK.is("1 repair(0, 1, 1)", x.repair(0, 1, 1), 0);
        CHECK.is("1 mend(0, 1)", x.mend(0, 1), 15);
        CHECK.is("1 link(0, 1, 0)", x.link(0, 1, 0), 0);
    }

    private static void movedSection() {
        LinkAuditor x = new LinkAuditor();
        CHECK.is("2 put", x.put(1029782392L), 4);
        CHECK.is("2 load", x.load(0), 2);
        CHECK.is("2 put", x.put(391934861661L), 5);
        CHECK.is("2 load", x.load(1), 1);
        CHECK.is("2 put", x.put(1029847928L), 4);
        CHECK.is("2 load", x.load(0), 2);
        CHECK.is("2 link(1, 0, 0)", x.link(1, 0, 0), 4);
        CHECK.is("2 memory(-1, 0)", x.memory(-1, 0), 1);
        CHECK.is("2 repair(1, 0, 0)", x.repair(1, 0, 0), 1);
        CHECK.is("2 repair(1, 0, 2)", x.repair(1, 0, 2), 0);
        CHECK.is("2 mendAll", x.mendAll(), 1);
        CHECK.is("2 link(1, 0, 0)", x.link(1, 0, 0), 0);
    }

    private static void redirectOfPage() {
        LinkAuditor x = new LinkAuditor();
        CHECK.is("3 put", x.put(391951644765L), 5);
        CHECK.is("3 load", x.load(0), 1);
        CHECK.is("3 put", x.put(4341313L), 3);
        CHECK.is("3 redirect", x.redirect(), 1);
        CHECK.is("3 link(0, 0, 0)", x.link(0, 0, 0), 4);
        CHECK.is("3 link(0, 0, 3)", x.link(0, 0, 3), 1);
        CHECK.is("3 link(0, 0, 4)", x.link(0, 0, 4), 0);
    }

    private static void includes() {
        LinkAuditor x = new LinkAuditor();
        CHECK.is("4 put", x.put(4422881709631680893L), 8);
        CHECK.is("4 put", x.put(3882337L), 11);
        CHECK.is("4 load", x.load(0), 3);
        CHECK.is("4 put", x.put(67487819055485L), 6);
        CHECK.is("4 load", x.load(1), 2);
        CHECK.is("4 about(0, 2)", x.about(0, 2), 3);
        CHECK.is("4 heading(0, 1, 0)", x.heading(0, 1, 0), 2);
        CHECK.is("4 anchor(0, 2, 2)", x.anchor(0, 2, 2), 50);
        CHECK.is("4 cycles", x.cycles(), 3);
    }

    private static void faultAndRedirect() {
        LinkAuditor x = new LinkAuditor();
        CHECK.is("5 put", x.put(1530995549L), 4);
        CHECK.is("5 fault(0)", x.fault(0), 3);
        CHECK.is("5 load", x.load(0), -3);
        CHECK.is("5 wipe", x.wipe(), 4);
        CHECK.is("5 put", x.put(4275778L), 3);
        CHECK.is("5 redirect", x.redirect(), 1);
        CHECK.is("5 redirection(0, 2)", x.redirection(0, 2), 1);
    }
}
