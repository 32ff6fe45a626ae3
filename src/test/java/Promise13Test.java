/** Promise 13: hop. */
public final class Promise13Test {
    private static final int NONE = StageDispatcher.NONE;

    public static void main(String[] args) {
        Check check = new Check();
        StageDispatcher d = new StageDispatcher();
        check.hops("no request", d);
        Check.root(d, "/x");
        d.resource(false);
        d.resource(false);
        Check.locator(d, 0, "/a", 1);
        Check.locator(d, 1, "/b", 2);
        Check.locator(d, 2, "/c", 2);
        Check.method(d, 2, 0, "");
        check.same("two hops", Check.get(d, "/x/a/b"), 200);
        check.hops("two hops", d, 1, 2);
        check.same("four hops", Check.get(d, "/x/a/b/c/c/"), 200);
        check.hops("four hops", d, 1, 2, 2, 2);
        check.same("k -1", d.hop(-1), NONE);
        check.same("the least k", d.hop(Integer.MIN_VALUE), NONE);
        check.same("the greatest k", d.hop(Integer.MAX_VALUE), NONE);
        check.same("of no use: no method there", Check.get(d, "/x/a"), 404);
        check.hops("of no use: no method there", d, 1);
        check.same("of no use: nothing matches", Check.get(d, "/x/a/b/d"), 404);
        check.hops("of no use: nothing matches", d, 1, 2);
        check.same("of no use: the verb", Check.request(d, 1, "/x/a/b"), 405);
        check.hops("of no use: the verb", d, 1, 2);
        check.same("no hop", Check.get(d, "/x"), 404);
        check.hops("no hop", d);
        asManyAsThereCanBe(check);
        check.end();
    }

    private static void asManyAsThereCanBe(Check check) {
        StageDispatcher d = new StageDispatcher();
        Check.root(d, "/x");
        Check.locator(d, 0, "/y", 0);
        Check.method(d, 0, 0, "");
        check.same("eleven hops", Check.get(d, "/x/y/y/y/y/y/y/y/y/y/y/y"), 200);
        check.hops("eleven hops", d, 0, 0, 0, 0, 0, 0, 0, 0, 0, 0, 0);
    }
}
