/** Promise 8: mapper. */
public final class Promise08Test {
    public static void main(String[] args) {
        Check check = new Check();
        StageDispatcher d = new StageDispatcher();
        check.no("t 0", d.mapper(0, 200));
        check.no("t 16", d.mapper(16, 200));
        check.no("t -1", d.mapper(-1, 0));
        check.no("the least t", d.mapper(Integer.MIN_VALUE, 200));
        check.no("status 99", d.mapper(8, 99));
        check.no("status 600", d.mapper(8, 600));
        check.no("status -1", d.mapper(8, -1));
        check.no("status 1", d.mapper(8, 1));
        check.same("none was set", Check.get(d, "/a"), 404);
        check.yes("there was none", d.mapper(8, 0));
        check.yes("status 100", d.mapper(8, 100));
        check.same("mapped", Check.get(d, "/a"), 100);
        check.yes("status 599", d.mapper(8, 599));
        check.same("mapped anew", Check.get(d, "/a"), 599);
        check.no("refused", d.mapper(8, 600));
        check.same("as it was", Check.get(d, "/a"), 599);
        Check.typed(d, "/a");
        check.yes("taken away", d.mapper(8, 0));
        check.same("mapper leaves the buffer alone", d.request(0, 0, 0), 404);
        check.yes("t 1", d.mapper(1, 401));
        check.yes("t 15", d.mapper(15, 415));
        check.same("by the mapper for 1", Check.get(d, "/a"), 401);
        thrownByMethods(check);
        check.end();
    }

    /** Each thrown number goes to the nearest mapper: its own, or that of its half, and so on. */
    private static void thrownByMethods(Check check) {
        for (int t = 1; t <= 15; t++) {
            for (int mapped = 1; mapped <= 15; mapped++) {
                StageDispatcher d = new StageDispatcher();
                Check.root(d, "/a");
                Check.method(d, 0, 0, "");
                d.detail(0, StageDispatcher.NONE, 0, t);
                d.mapper(mapped, 222);
                boolean reached = mapped == t || mapped == t / 2 || mapped == t / 4 || mapped == t / 8;
                int due = t == 8 ? 404 : t == 9 ? 405 : t == 10 ? 406 : t == 11 ? 415 : 500;
                check.same(t + " with a mapper for " + mapped, Check.get(d, "/a"), reached ? 222 : due);
                check.same("invoked", d.invoked(), 0);
            }
        }
        StageDispatcher d = new StageDispatcher();
        Check.root(d, "/a");
        Check.method(d, 0, 0, "");
        d.detail(0, StageDispatcher.NONE, 0, 13);
        int[] chain = {1, 3, 6, 13};
        for (int i = 0; i < chain.length; i++) {
            d.mapper(chain[i], 300 + i);
            check.same("the nearest", Check.get(d, "/a"), 300 + i);
        }
    }
}
