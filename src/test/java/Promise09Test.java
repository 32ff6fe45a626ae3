/** Promise 9: accept. */
public final class Promise09Test {
    private static final int NONE = StageDispatcher.NONE;

    public static void main(String[] args) {
        Check check = new Check();
        for (int type = -70; type <= 300; type++) {
            boolean due = type == 0 || type >= 16 && type < 64 && type % 16 <= 3;
            check.same("type " + type, new StageDispatcher().accept(type, 1) ? 1 : 0, due ? 1 : 0);
        }
        StageDispatcher d = new StageDispatcher();
        Check.root(d, "/a");
        d.method(0, 0, 0, 17, 0);
        check.no("q -1", d.accept(33, -1));
        check.no("q 1001", d.accept(33, 1001));
        check.no("no type", d.accept(1, 0));
        check.same("refused ones are not accepted", Check.get(d, "/a"), 200);

        Check.typed(d, "/a");
        check.yes("q 0", d.accept(17, 0));
        check.same("accept leaves the buffer alone, and a q of 0 is no good", d.request(0, 0, 0), 406);
        check.same("the next request has accepted nothing", Check.get(d, "/a"), 200);
        check.yes("q 1000", d.accept(33, 1000));
        check.same("a refused request", d.request(0, 0, 0), NONE);
        check.same("what is accepted stays", Check.get(d, "/a"), 406);

        check.yes("first", d.accept(33, 1));
        check.yes("the same again", d.accept(33, 1));
        check.yes("third", d.accept(34, 1));
        check.yes("fourth", d.accept(17, 0));
        check.no("fifth", d.accept(17, 1000));
        check.same("the fifth is not accepted", Check.get(d, "/a"), 406);
        for (int k = 0; k < 4; k++) {
            check.yes("there is room again: " + k, d.accept(k == 3 ? 17 : 35, 1));
        }
        check.same("the fourth is accepted", Check.get(d, "/a"), 200);

        d.filter(0, 0, 0, 9, 503);
        d.accept(33, 1);
        check.same("a request that a filter ends", Check.typed(d, "/a").request(0, 0, 9), 503);
        check.same("uses up what was accepted", Check.get(d, "/a"), 200);
        d.accept(33, 1);
        check.same("so does one without a resource", Check.get(d, "/b"), 404);
        check.same("nothing is accepted any more", Check.get(d, "/a"), 200);
        check.end();
    }
}
