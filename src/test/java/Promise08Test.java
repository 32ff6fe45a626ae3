/** Promise 8: mapper. What is thrown goes to the nearest mapper: see ThrownTest. */
public final class Promise08Test {
    private static final int NONE = StageDispatcher.NONE;

    public static void main(String[] args) {
        Check check = new Check();
        gives(check);
        takenAway(check);
        thrownNumbers(check);
        statuses(check);
        refusedOnesChangeNothing(check);
        bufferIsLeftAlone(check);
        check.end();
    }

    private static void gives(Check check) {
        StageDispatcher d = new StageDispatcher();
        check.yes("a mapper", d.mapper(8, 444));
        check.same("it gives its status", Check.get(d, "/a"), 444);
        check.yes("another for the same", d.mapper(8, 445));
        check.same("it gives its status instead", Check.get(d, "/a"), 445);
        check.yes("the same again", d.mapper(8, 445));
        check.same("it gives the same", Check.get(d, "/a"), 445);
    }

    /** "or there is none for t any more (status 0; true also if there was none)" */
    private static void takenAway(Check check) {
        StageDispatcher d = new StageDispatcher();
        for (int t = 1; t <= 15; t++) {
            check.yes("there was none for " + t, d.mapper(t, 0));
        }
        check.same("there is none", Check.get(d, "/a"), 404);
        d.mapper(8, 444);
        d.mapper(4, 443);
        check.yes("there was one", d.mapper(8, 0));
        check.same("the next nearest gives its status", Check.get(d, "/a"), 443);
        check.yes("there is none any more", d.mapper(8, 0));
        check.yes("the last one", d.mapper(4, 0));
        check.same("there is none", Check.get(d, "/a"), 404);
    }

    /** "t (1 .. 15)" */
    private static void thrownNumbers(Check check) {
        for (int status : new int[] {0, 100, 599}) {
            StageDispatcher d = new StageDispatcher();
            check.no("t 0", d.mapper(0, status));
            check.no("t -1", d.mapper(-1, status));
            check.no("t 16", d.mapper(16, status));
            for (int far : Check.FAR) {
                check.no("t " + far, d.mapper(far, status));
            }
            for (int t = 1; t <= 15; t++) {
                check.yes("t " + t, d.mapper(t, status));
            }
        }
    }

    /** "status (100 .. 599)", or "0" */
    private static void statuses(Check check) {
        for (int status = -20; status <= 620; status++) {
            StageDispatcher d = new StageDispatcher();
            boolean due = status == 0 || status >= 100 && status <= 599;
            check.same("status " + status, d.mapper(8, status) ? 1 : 0, due ? 1 : 0);
            check.same("mapped to " + status, Check.get(d, "/a"), due && status != 0 ? status : 404);
        }
        for (int far : Check.FAR) {
            check.no("status " + far, new StageDispatcher().mapper(8, far));
        }
    }

    private static void refusedOnesChangeNothing(Check check) {
        StageDispatcher d = Check.serving("/a");
        for (int t = 1; t <= 15; t++) {
            d.mapper(t, 300 + t);
        }
        check.no("t 16", d.mapper(16, 200));
        check.no("t 0", d.mapper(0, 0));
        for (int t = 1; t <= 15; t++) {
            check.no("status 600 for " + t, d.mapper(t, 600));
            check.no("status 99 for " + t, d.mapper(t, 99));
            check.no("status -1 for " + t, d.mapper(t, -1));
            check.no("status 1 for " + t, d.mapper(t, 1));
        }
        for (int t = 1; t <= 15; t++) {
            d.detail(0, NONE, 0, t);
            check.same("as it was for " + t, Check.get(d, "/a"), 300 + t);
        }
    }

    private static void bufferIsLeftAlone(Check check) {
        StageDispatcher d = Check.serving("/a");
        Check.typed(d, "/a");
        check.yes("one that is set", d.mapper(8, 444));
        check.no("one that is not", d.mapper(16, 444));
        check.same("the buffer is as it was", d.request(0, 0, 0), 200);
    }
}
