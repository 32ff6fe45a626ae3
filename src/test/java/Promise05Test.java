/** Promise 5: detail. */
public final class Promise05Test {
    private static final int NONE = StageDispatcher.NONE;

    public static void main(String[] args) {
        Check check = new Check();
        StageDispatcher d = new StageDispatcher();
        Check.root(d, "/{}");
        Check.method(d, 0, 0, "");
        Check.method(d, 0, 1, "");
        d.filter(0, 3, 2, 0, 0);
        check.yes("details", d.detail(0, 0, 3, 15));
        check.same("it throws", Check.get(d, "/7"), 500);
        check.same("it converts", d.argument(), 7);
        check.ran("its name is 3", d, 0);
        check.same("the other method has none", Check.request(d, 1, "/7"), 200);
        check.same("it converts nothing", d.argument(), 0);
        check.ran("its name is 0", d);

        check.no("m -1", d.detail(-1, 0, 0, 0));
        check.no("m 2", d.detail(2, 0, 0, 0));
        check.no("converts -2", d.detail(0, -2, 0, 0));
        check.no("converts 10", d.detail(0, 10, 0, 0));
        check.no("name -1", d.detail(0, NONE, -1, 0));
        check.no("name 4", d.detail(0, NONE, 4, 0));
        check.no("throwing -1", d.detail(0, NONE, 0, -1));
        check.no("throwing 16", d.detail(0, NONE, 0, 16));
        check.same("a refused call changes nothing", Check.get(d, "/7"), 500);
        check.same("nor here", d.argument(), 7);
        check.ran("nor here", d, 0);

        check.yes("the edges above", d.detail(0, 9, 3, 15));
        check.yes("the edges below", d.detail(0, 0, 0, 0));
        check.yes("no more details", d.detail(0, NONE, 0, 0));
        check.same("it throws nothing any more", Check.get(d, "/7"), 200);
        check.same("it converts nothing any more", d.argument(), 0);
        check.ran("its name is 0 again", d);

        Check.typed(d, "/8");
        check.yes("detail leaves the buffer alone", d.detail(0, 0, 0, 1));
        check.same("the buffer is still there", d.request(0, 0, 0), 500);
        check.same("its argument", d.argument(), 8);
        check.yes("the details of later requests", d.detail(0, NONE, 0, 0));
        check.same("what is told of the latest one stays", d.argument(), 8);
        check.end();
    }
}
