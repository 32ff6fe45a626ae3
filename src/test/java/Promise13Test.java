/** Promise 13: hop. */
public final class Promise13Test {
    private static final int NONE = StageDispatcher.NONE;

    public static void main(String[] args) {
        Check check = new Check();
        inTheirOrder(check);
        ofNoUse(check);
        noSuch(check);
        asManyAsThereCanBe(check);
        ofTheLatest(check);
        check.end();
    }

    private static StageDispatcher chained() {
        StageDispatcher d = Check.rooted("/x");
        d.resource(false);
        d.resource(false);
        Check.locator(d, 0, "/a", 1);
        Check.locator(d, 1, "/b", 2);
        Check.locator(d, 2, "/c", 2);
        Check.method(d, 2, 0, "");
        return d;
    }

    private static void inTheirOrder(Check check) {
        StageDispatcher d = chained();
        check.same("two hops", Check.get(d, "/x/a/b"), 200);
        check.hops("two hops", d, 1, 2);
        check.same("four hops", Check.get(d, "/x/a/b/c/c/"), 200);
        check.hops("four hops", d, 1, 2, 2, 2);
    }

    /** "also if that was of no use" */
    private static void ofNoUse(Check check) {
        StageDispatcher d = chained();
        check.same("no method there", Check.get(d, "/x/a"), 404);
        check.hops("no method there", d, 1);
        check.same("nothing matches", Check.get(d, "/x/a/b/d"), 404);
        check.hops("nothing matches", d, 1, 2);
        check.same("the verb", Check.request(d, 1, "/x/a/b"), 405);
        check.hops("the verb", d, 1, 2);
        check.same("204", Check.request(d, 5, "/x/a/b"), 204);
        check.hops("204", d, 1, 2);
        d.accept(17, 0);
        check.same("the types", Check.get(d, "/x/a/b"), 406);
        check.hops("the types", d, 1, 2);
        d.filter(0, 0, 1, 5, 403);
        check.same("a filter behind the matching", Check.sent(d, "/x/a/b", 5), 403);
        check.hops("a filter behind the matching", d, 1, 2);
    }

    /** "NONE when there was no such" */
    private static void noSuch(Check check) {
        StageDispatcher d = chained();
        check.same("no request", d.hop(0), NONE);
        Check.get(d, "/x/a/b");
        check.same("k 2 of two", d.hop(2), NONE);
        check.same("k -1", d.hop(-1), NONE);
        for (int far : Check.FAR) {
            check.same("k " + far, d.hop(far), NONE);
        }
        for (int k = 2; k <= 30; k++) {
            check.same("k " + k, d.hop(k), NONE);
        }
        check.same("no hop", Check.get(d, "/x"), 404);
        check.same("k 0 of none", d.hop(0), NONE);
        check.same("no root", Check.get(d, "/y"), 404);
        check.same("k 0 of none", d.hop(0), NONE);
    }

    /** A hop takes at least two characters of the 24, unless it takes all that are left. */
    private static void asManyAsThereCanBe(Check check) {
        StageDispatcher d = Check.rooted("/x");
        Check.locator(d, 0, "/y", 0);
        Check.method(d, 0, 0, "");
        check.same("eleven hops", Check.get(d, "/x/y/y/y/y/y/y/y/y/y/y/y"), 200);
        check.hops("eleven hops", d, 0, 0, 0, 0, 0, 0, 0, 0, 0, 0, 0);
        StageDispatcher e = Check.rooted("/x");
        e.resource(false);
        Check.locator(e, 0, "/y", 0);
        Check.locator(e, 0, "/{r}", 1);
        Check.method(e, 1, 0, "");
        check.same("the last takes / alone", Check.get(e, "/x/y/y/y/y/y/y/y/y/y/y/"), 200);
        check.hops("the last takes / alone", e, 0, 0, 0, 0, 0, 0, 0, 0, 0, 0, 1);
    }

    private static void ofTheLatest(Check check) {
        StageDispatcher d = chained();
        Check.get(d, "/x/a/b/c");
        check.hops("three", d, 1, 2, 2);
        Check.get(d, "/x/a");
        check.hops("one is left", d, 1);
        d.filter(0, 0, 0, 5, 503);
        check.same("a filter before the matching", Check.sent(d, "/x/a", 5), 503);
        check.hops("none is left", d);
    }
}
