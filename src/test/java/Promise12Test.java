/** Promise 12: argument, and step 4 of a request. */
public final class Promise12Test {
    private static final int NONE = StageDispatcher.NONE;

    public static void main(String[] args) {
        Check check = new Check();
        converted(check, "0", 0);
        converted(check, "7", 7);
        converted(check, "00000000000000000000012", 12);
        converted(check, "2147483647", 2147483647);
        converted(check, "000000000002147483647", 2147483647);
        converted(check, "2147483648", NONE);
        converted(check, "4294967296", NONE);
        converted(check, "4294967303", NONE);
        converted(check, "9999999999", NONE);
        converted(check, "18446744073709551616", NONE);
        converted(check, "18446744073709551623", NONE);
        converted(check, "99999999999999999999999", NONE);
        converted(check, "x", NONE);
        converted(check, "1x", NONE);
        converted(check, "x1", NONE);
        converted(check, "1/2", NONE);
        converted(check, "", NONE);
        which(check);
        check.end();
    }

    private static void converted(Check check, String text, int due) {
        StageDispatcher d = new StageDispatcher();
        Check.root(d, "/{r}");
        Check.method(d, 0, 0, "");
        d.detail(0, 0, 0, 0);
        check.same("a request with " + text, Check.get(d, "/" + text), due == NONE ? 404 : 200);
        check.same("the argument of " + text, d.argument(), due == NONE ? 0 : due);
        check.same("invoked with " + text, d.invoked(), due == NONE ? NONE : 0);
        check.same("the matching came to its end with " + text, d.produced(), 255);
        d.mapper(4, 444);
        check.same("thrown 8 is mapped: " + text, Check.get(d, "/" + text), due == NONE ? 444 : 200);
    }

    private static void which(Check check) {
        StageDispatcher d = new StageDispatcher();
        Check.root(d, "/{}");
        Check.method(d, 0, 0, "/{}/{}");
        d.detail(0, 2, 0, 9);
        check.same("it throws", Check.get(d, "/1/22/333"), 405);
        check.same("the argument is told all the same", d.argument(), 333);
        d.detail(0, 1, 0, 0);
        Check.get(d, "/1/22/x");
        check.same("another one", d.argument(), 22);
        d.detail(0, 3, 0, 0);
        check.same("there is no such parameter", Check.get(d, "/1/22/333"), 200);
        check.same("so it is 0", d.argument(), 0);
        d.detail(0, 9, 0, 0);
        check.same("nor this one", Check.get(d, "/1/22/333"), 200);
        check.same("invoked", d.invoked(), 0);
        d.detail(0, NONE, 0, 0);
        Check.get(d, "/1/22/333");
        check.same("none is converted", d.argument(), 0);
        d.detail(0, 0, 0, 0);
        d.filter(0, 0, 1, 5, 403);
        check.same("a filter ends it", Check.typed(d, "/1/22/333").request(0, 0, 5), 403);
        check.same("not invoked", d.argument(), 0);
    }
}
