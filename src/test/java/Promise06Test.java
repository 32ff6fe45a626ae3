/** Promise 6: locator. */
public final class Promise06Test {
    private static final int NONE = StageDispatcher.NONE;

    public static void main(String[] args) {
        Check check = new Check();
        StageDispatcher d = new StageDispatcher();
        Check.root(d, "/a");
        d.resource(false);
        Check.root(d, "/c");
        Check.method(d, 1, 0, "");
        Check.method(d, 2, 0, "");
        Check.method(d, 0, 0, "/m");
        check.same("no template", d.locator(0, 1), NONE);
        check.same("a bad template", Check.locator(d, 0, "/{x}", 1), NONE);
        check.same("resource -1", Check.locator(d, -1, "/b", 1), NONE);
        check.same("resource 3", Check.locator(d, 3, "/b", 1), NONE);
        check.same("target -1", Check.locator(d, 0, "/b", -1), NONE);
        check.same("target 3", Check.locator(d, 0, "/b", 3), NONE);
        check.same("the buffer was emptied", d.request(0, 0, 0), NONE);
        check.same("none is there yet", Check.get(d, "/a/b"), 404);

        check.same("to one without a template", Check.locator(d, 0, "/b", 1), 0);
        check.same("to itself", Check.locator(d, 0, "/s", 0), 1);
        check.same("to a root one", Check.locator(d, 0, "/{d}", 2), 2);
        check.same("the first", Check.get(d, "/a/b"), 200);
        check.same("its method", d.invoked(), 0);
        check.same("the second, twice", Check.get(d, "/a/s/s/m"), 200);
        check.same("its method", d.invoked(), 2);
        check.hops("the second, twice", d, 0, 0);
        check.same("the third: the root's template is of no use", Check.get(d, "/a/5"), 200);
        check.same("its method", d.invoked(), 1);
        check.hops("the third", d, 2);

        for (int l = 3; l < 8; l++) {
            check.same("locator " + l, Check.locator(d, 1, "/x", 1), l);
        }
        check.same("a ninth", Check.locator(d, 1, "/y", 1), NONE);
        check.same("the buffer was emptied", d.request(0, 0, 0), NONE);
        check.same("the ninth is not there", Check.get(d, "/a/b/y"), 404);
        check.end();
    }
}
