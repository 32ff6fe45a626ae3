/** Promise 11: invoked. */
public final class Promise11Test {
    private static final int NONE = StageDispatcher.NONE;

    public static void main(String[] args) {
        Check check = new Check();
        numbers(check);
        alsoIfItThrew(check);
        noneWas(check);
        noRequest(check);
        ofTheLatest(check);
        check.end();
    }

    private static void numbers(Check check) {
        StageDispatcher d = Check.rooted("/a");
        for (int m = 0; m < 12; m++) {
            Check.method(d, 0, m % 6, m < 6 ? "" : "/b");
        }
        for (int m = 0; m < 12; m++) {
            check.same("a request", Check.request(d, m % 6, m < 6 ? "/a" : "/a/b"), 200);
            check.same("method " + m, d.invoked(), m);
        }
    }

    /** "(also if it threw)" */
    private static void alsoIfItThrew(Check check) {
        StageDispatcher d = Check.serving("/a");
        for (int t = 1; t <= 15; t++) {
            d.detail(0, NONE, 0, t);
            Check.get(d, "/a");
            check.same("it threw " + t, d.invoked(), 0);
        }
    }

    /** "NONE when none was": in each way in which a request comes to that */
    private static void noneWas(Check check) {
        StageDispatcher d = Check.rooted("/{}");
        d.method(0, 0, 17, 17, 0);
        d.detail(0, 0, 0, 0);
        d.filter(0, 0, 1, 5, 403);
        d.filter(0, 0, 0, 6, 503);
        invokedAtFirst(check, d);
        check.same("no resource", Check.get(d, "/"), 404);
        check.same("no resource", d.invoked(), NONE);
        invokedAtFirst(check, d);
        check.same("no such verb", Check.request(d, 3, "/1"), 405);
        check.same("no such verb", d.invoked(), NONE);
        invokedAtFirst(check, d);
        check.same("204", Check.request(d, 5, "/1"), 204);
        check.same("204", d.invoked(), NONE);
        invokedAtFirst(check, d);
        check.same("not consumed", Check.typed(d, "/1").request(0, 18, 0), 415);
        check.same("not consumed", d.invoked(), NONE);
        invokedAtFirst(check, d);
        d.accept(18, 1);
        check.same("not acceptable", Check.get(d, "/1"), 406);
        check.same("not acceptable", d.invoked(), NONE);
        invokedAtFirst(check, d);
        check.same("not converted", Check.get(d, "/x"), 404);
        check.same("not converted", d.invoked(), NONE);
        invokedAtFirst(check, d);
        check.same("a filter ends it behind the matching", Check.sent(d, "/1", 5), 403);
        check.same("a filter ends it behind the matching", d.invoked(), NONE);
        invokedAtFirst(check, d);
        check.same("a filter ends it before the matching", Check.sent(d, "/1", 6), 503);
        check.same("a filter ends it before the matching", d.invoked(), NONE);
    }

    private static void invokedAtFirst(Check check, StageDispatcher d) {
        check.same("a request", Check.get(d, "/1"), 200);
        check.same("invoked at first", d.invoked(), 0);
    }

    /** "or there was no request": refused ones are none */
    private static void noRequest(Check check) {
        StageDispatcher d = Check.serving("/a");
        check.same("no request", d.invoked(), NONE);
        check.refused("one that is refused", Check.request(d, 6, "/a"));
        check.same("no request", d.invoked(), NONE);
    }

    private static void ofTheLatest(Check check) {
        StageDispatcher d = Check.serving("/a");
        Check.get(d, "/a");
        check.refused("one that is refused", d.request(0, 0, 0));
        check.same("the latest that was not", d.invoked(), 0);
        Check.method(d, 0, 0, "");
        d.detail(0, NONE, 0, 1);
        check.same("what is added later does not matter", d.invoked(), 0);
    }
}
