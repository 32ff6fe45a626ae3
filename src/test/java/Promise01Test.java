/** Promise 1: a new object. */
public final class Promise01Test {
    private static final int NONE = StageDispatcher.NONE;

    public static void main(String[] args) {
        Check check = new Check();
        StageDispatcher d = new StageDispatcher();
        check.same("invoked", d.invoked(), NONE);
        check.same("argument", d.argument(), 0);
        check.same("allowed", d.allowed(), 0);
        check.same("produced", d.produced(), NONE);
        check.hops("new", d);
        check.ran("new", d);
        check.same("parameter", d.parameter(0, NONE), NONE);
        check.same("parameter's character", d.parameter(0, 0), NONE);
        check.no("no method is there", d.detail(0, NONE, 0, 0));
        check.same("no resource is there", d.method(0, 0, 0, 0, 0), NONE);
        check.same("the buffer is empty", d.request(0, 0, 0), NONE);
        check.same("nothing is found", Check.get(d, "/a"), 404);

        StageDispatcher e = new StageDispatcher();
        check.same("the first root", Check.root(e, "/a"), 0);
        check.same("the first method", Check.method(e, 0, 0, ""), 0);
        check.same("the first locator", Check.locator(e, 0, "/b", 0), 0);
        check.same("nothing is accepted, so all is", Check.get(e, "/a"), 200);
        check.ran("no filter is there", e);
        check.same("the first filter", e.filter(0, 0, 0, 0, 0), 0);
        check.same("objects have nothing in common", Check.get(d, "/a"), 404);
        check.same("no mapper is there", Check.get(new StageDispatcher(), "/a"), 404);
        check.end();
    }
}
