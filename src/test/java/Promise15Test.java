/** Promise 15: allowed. */
public final class Promise15Test {
    public static void main(String[] args) {
        Check check = new Check();
        StageDispatcher d = new StageDispatcher();
        check.same("no request", d.allowed(), 0);
        Check.root(d, "/a");
        Check.root(d, "/a");
        Check.root(d, "/b");
        Check.method(d, 0, 1, "");
        Check.method(d, 1, 2, "");
        Check.method(d, 0, 3, "/m");
        Check.method(d, 2, 0, "");
        Check.method(d, 2, 0, "");
        check.same("POST", Check.request(d, 1, "/a"), 200);
        check.same("both classes, and OPTIONS", d.allowed(), 1 << 1 | 1 << 2 | 1 << 5);
        check.same("not allowed", Check.get(d, "/a"), 405);
        check.same("told all the same", d.allowed(), 1 << 1 | 1 << 2 | 1 << 5);
        check.same("GET", Check.get(d, "/b"), 200);
        check.same("HEAD too", d.allowed(), 1 | 1 << 4 | 1 << 5);
        check.same("OPTIONS", Check.request(d, 5, "/a/m"), 204);
        check.same("those of the template alone", d.allowed(), 1 << 3 | 1 << 5);
        check.same("not found", Check.get(d, "/a/x"), 404);
        check.same("no stage 3", d.allowed(), 0);

        d.method(2, 4, 17, 0, 0);
        check.same("not consumed", Check.typed(d, "/b").request(4, 33, 0), 415);
        check.same("told at 415", d.allowed(), 1 | 1 << 4 | 1 << 5);
        d.accept(17, 0);
        check.same("not acceptable", Check.get(d, "/b"), 406);
        check.same("told at 406", d.allowed(), 1 | 1 << 4 | 1 << 5);

        d.filter(0, 0, 0, 7, 3);
        check.same("a filter changes the verb", Check.typed(d, "/b").request(0, 0, 7), 405);
        check.same("that does not matter", d.allowed(), 1 | 1 << 4 | 1 << 5);
        d.filter(0, 0, 0, 8, 503);
        check.same("a filter ends it", Check.typed(d, "/b").request(0, 0, 8), 503);
        check.same("no matching", d.allowed(), 0);
        check.end();
    }
}
