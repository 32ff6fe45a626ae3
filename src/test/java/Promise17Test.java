/** Promise 17: ran. In which order: see FiltersTest. */
public final class Promise17Test {
    private static final int NONE = StageDispatcher.NONE;

    public static void main(String[] args) {
        Check check = new Check();
        headerOrNot(check);
        noSuch(check);
        allEight(check);
        ofTheLatest(check);
        check.end();
    }

    /** "(whether x was the header or not)" */
    private static void headerOrNot(Check check) {
        StageDispatcher d = Check.serving("/a");
        d.filter(1, 0, 2, 0, 0);
        d.filter(1, 0, 1, 1, 0);
        d.filter(1, 0, 0, 2, 0);
        for (int header = 0; header <= 3; header++) {
            check.same("a request", Check.sent(d, "/a", header), 200);
            check.ran("the header " + header, d, 2, 1, 0);
        }
        d.filter(0, 0, 0, 9, 503);
        check.same("a filter ends it", Check.sent(d, "/a", 9), 503);
        check.ran("it ran, and those at the end", d, 3, 0);
    }

    /** "NONE when there was no such" */
    private static void noSuch(Check check) {
        StageDispatcher d = Check.serving("/a");
        d.filter(0, 0, 0, 1, 0);
        d.filter(0, 0, 2, 1, 0);
        check.same("no request", d.ran(0), NONE);
        Check.get(d, "/a");
        check.ran("two", d, 0, 1);
        check.same("k 2 of two", d.ran(2), NONE);
        check.same("k -1", d.ran(-1), NONE);
        check.same("k 8", d.ran(8), NONE);
        for (int far : Check.FAR) {
            check.same("k " + far, d.ran(far), NONE);
        }
        StageDispatcher e = Check.serving("/a");
        e.filter(0, 1, 2, 0, 0);
        Check.get(e, "/a");
        check.same("k 0 of none", e.ran(0), NONE);
    }

    private static void allEight(Check check) {
        StageDispatcher d = Check.serving("/a");
        for (int f = 0; f < 8; f++) {
            d.filter(1, 0, f % 3, 1, 0);
        }
        Check.get(d, "/a");
        check.ran("eight", d, 0, 3, 6, 1, 4, 7, 2, 5);
        check.same("k 7", d.ran(7), 5);
        check.same("k 8", d.ran(8), NONE);
    }

    private static void ofTheLatest(Check check) {
        StageDispatcher d = Check.serving("/a");
        d.filter(0, 0, 1, 1, 0);
        d.filter(0, 0, 2, 1, 0);
        Check.get(d, "/a");
        check.ran("both", d, 0, 1);
        check.refused("one that is refused", Check.request(d, 6, "/a"));
        check.ran("both still", d, 0, 1);
        d.filter(0, 0, 0, 1, 0);
        check.ran("what is added later did not run", d, 0, 1);
        check.same("no root", Check.get(d, "/b"), 404);
        check.ran("those of kind 1 did not run", d, 2, 1);
    }
}
