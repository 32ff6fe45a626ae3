/** Promise 17: ran. */
public final class Promise17Test {
    private static final int NONE = StageDispatcher.NONE;

    public static void main(String[] args) {
        Check check = new Check();
        StageDispatcher d = new StageDispatcher();
        check.ran("no request", d);
        Check.root(d, "/a");
        Check.method(d, 0, 0, "");
        d.filter(1, 0, 2, 0, 0);
        d.filter(1, 0, 1, 1, 0);
        d.filter(1, 0, 0, 2, 0);
        check.same("a request", Check.get(d, "/a"), 200);
        check.ran("whether x is the header or not", d, 2, 1, 0);
        check.same("k -1", d.ran(-1), NONE);
        check.same("the least k", d.ran(Integer.MIN_VALUE), NONE);
        check.same("the greatest k", d.ran(Integer.MAX_VALUE), NONE);
        check.same("not found", Check.get(d, "/b"), 404);
        check.ran("those of kind 1 did not run", d, 2, 0);
        for (int f = 3; f < 8; f++) {
            d.filter(1, 0, 1, 1, 0);
        }
        Check.get(d, "/a");
        check.ran("eight", d, 2, 1, 3, 4, 5, 6, 7, 0);
        check.end();
    }
}
