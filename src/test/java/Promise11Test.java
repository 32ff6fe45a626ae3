/** Promise 11: invoked. */
public final class Promise11Test {
    private static final int NONE = StageDispatcher.NONE;

    public static void main(String[] args) {
        Check check = new Check();
        StageDispatcher d = new StageDispatcher();
        check.same("no request", d.invoked(), NONE);
        Check.root(d, "/a");
        Check.method(d, 0, 1, "");
        Check.method(d, 0, 0, "");
        Check.method(d, 0, 2, "/{}");
        d.detail(2, 0, 0, 0);
        d.filter(0, 0, 1, 5, 403);
        Check.get(d, "/a");
        check.same("invoked", d.invoked(), 1);
        d.detail(0, NONE, 0, 7);
        check.same("it throws", Check.request(d, 1, "/a"), 500);
        check.same("it was invoked", d.invoked(), 0);
        check.same("no such verb", Check.request(d, 3, "/a"), 405);
        check.same("none was", d.invoked(), NONE);
        check.same("204", Check.request(d, 5, "/a"), 204);
        check.same("none was", d.invoked(), NONE);
        check.same("converted", Check.request(d, 2, "/a/1"), 200);
        check.same("invoked", d.invoked(), 2);
        check.same("not converted", Check.request(d, 2, "/a/x"), 404);
        check.same("none was", d.invoked(), NONE);
        Check.get(d, "/a");
        check.same("invoked", d.invoked(), 1);
        check.same("a filter ends it", Check.typed(d, "/a").request(0, 0, 5), 403);
        check.same("none was", d.invoked(), NONE);
        check.end();
    }
}
