/** Promise 7: filter. */
public final class Promise07Test {
    private static final int NONE = StageDispatcher.NONE;

    public static void main(String[] args) {
        Check check = new Check();
        StageDispatcher d = new StageDispatcher();
        check.same("priority -1", d.filter(-1, 0, 0, 0, 0), NONE);
        check.same("priority 100", d.filter(100, 0, 0, 0, 0), NONE);
        check.same("name -1", d.filter(0, -1, 0, 0, 0), NONE);
        check.same("name 4", d.filter(0, 4, 0, 0, 0), NONE);
        check.same("kind -1", d.filter(0, 0, -1, 0, 0), NONE);
        check.same("kind 3", d.filter(0, 0, 3, 0, 0), NONE);
        check.same("status -1", d.filter(0, 0, 0, 0, -1), NONE);
        check.same("status 6", d.filter(0, 0, 0, 0, 6), NONE);
        check.same("status 99", d.filter(0, 0, 0, 0, 99), NONE);
        check.same("status 600", d.filter(0, 0, 0, 0, 600), NONE);
        check.same("status 6 of kind 2", d.filter(0, 0, 2, 0, 6), NONE);
        Check.get(d, "/a");
        check.ran("none was added", d);

        check.same("the edges above", d.filter(99, 3, 2, Integer.MAX_VALUE, 599), 0);
        check.same("the edges below", d.filter(0, 0, 0, Integer.MIN_VALUE, 0), 1);
        check.same("status 5", d.filter(0, 0, 0, 7, 5), 2);
        check.same("status 100", d.filter(0, 0, 0, 8, 100), 3);
        Check.typed(d, "/a");
        for (int f = 4; f < 8; f++) {
            check.same("filter " + f, d.filter(50, 0, 0, -1, 200), f);
        }
        check.same("a ninth", d.filter(0, 0, 0, 0, 500), NONE);
        check.same("the buffer is left alone", d.request(0, 0, 0), 404);
        check.ran("the ninth is not there", d, 1, 2, 3, 4, 5, 6, 7);
        check.same("x is the header", Check.typed(d, "/a").request(0, 0, 8), 100);
        check.same("x below 0", Check.typed(d, "/a").request(0, 0, -1), 200);
        check.end();
    }
}
