/** Promise 10: request. */
public final class Promise10Test {
    private static final int NONE = StageDispatcher.NONE;

    public static void main(String[] args) {
        Check check = new Check();
        StageDispatcher d = new StageDispatcher();
        Check.root(d, "/{d}");
        d.resource(false);
        Check.locator(d, 0, "/{}", 1);
        d.method(1, 0, 0, 18, 0);
        d.detail(0, 0, 0, 0);
        d.filter(0, 0, 2, 0, 0);
        check.same("a request", Check.get(d, "/12/a"), 200);
        stays(check, "at first", d);

        check.same("an empty buffer", d.request(0, 0, 0), NONE);
        check.same("it does not begin with /", Check.get(d, "a/"), NONE);
        check.same("it holds {", Check.get(d, "/a{"), NONE);
        check.same("it holds }", Check.get(d, "/12}/a"), NONE);
        check.same("verb -1", Check.request(d, -1, "/12/a"), NONE);
        check.same("the buffer was emptied", d.request(0, 0, 0), NONE);
        check.same("verb 6", Check.request(d, 6, "/12/a"), NONE);
        for (int content = -70; content <= 300; content++) {
            boolean type = content >= 16 && content < 64 && content % 16 >= 1 && content % 16 <= 3;
            if (content != 0 && !type) {
                check.same("content " + content, Check.typed(d, "/1").request(0, content, 0), NONE);
            }
        }
        stays(check, "after refusals", d);

        StageDispatcher e = new StageDispatcher();
        Check.root(e, "/a");
        e.method(0, 0, 0, 0, 0);
        for (int t = 1; t <= 3; t++) {
            for (int s = 1; s <= 3; s++) {
                check.same("content " + t + " " + s, Check.typed(e, "/a").request(0, 16 * t + s, 0), 200);
            }
        }
        for (int verb = 0; verb <= 5; verb++) {
            int due = verb == 0 || verb == 4 ? 200 : verb == 5 ? 204 : 405;
            check.same("verb " + verb, Check.request(e, verb, "/a"), due);
        }
        check.same("the path / alone", Check.get(e, "/"), 404);
        check.same("any header", Check.typed(e, "/a").request(0, 0, Integer.MIN_VALUE), 200);
        afresh(check);
        check.end();
    }

    private static void stays(Check check, String when, StageDispatcher d) {
        check.same(when + ": invoked", d.invoked(), 0);
        check.same(when + ": argument", d.argument(), 12);
        check.same(when + ": allowed", d.allowed(), 49);
        check.same(when + ": produced", d.produced(), 18);
        check.hops(when, d, 1);
        check.ran(when, d, 0);
        check.parameters(when, d, "12,a");
    }

    /** Nothing is left of an earlier request. */
    private static void afresh(Check check) {
        StageDispatcher d = new StageDispatcher();
        Check.root(d, "/{d}");
        Check.locator(d, 0, "/{}", 0);
        Check.method(d, 0, 0, "");
        d.detail(0, 0, 0, 0);
        check.same("a request", Check.get(d, "/12/a"), 200);
        check.same("another", Check.get(d, "/x"), 404);
        check.same("invoked", d.invoked(), NONE);
        check.same("argument", d.argument(), 0);
        check.same("allowed", d.allowed(), 0);
        check.same("produced", d.produced(), NONE);
        check.hops("afresh", d);
        check.parameters("afresh", d, "");
    }
}
