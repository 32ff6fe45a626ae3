/** Promise 16: produced. */
public final class Promise16Test {
    private static final int NONE = StageDispatcher.NONE;

    public static void main(String[] args) {
        Check check = new Check();
        // produces, accepted (NONE for nothing), the status, the type of the answer
        int[][] rows = {
            {17, NONE, 200, 17}, {0, NONE, 200, 255}, {16, NONE, 200, 255}, {32, NONE, 406, NONE},
            {48, NONE, 406, NONE}, {17, 0, 200, 17}, {17, 16, 200, 17}, {17, 17, 200, 17}, {17, 18, 406, NONE},
            {17, 32, 406, NONE}, {16, 18, 200, 18}, {16, 16, 200, 255}, {16, 32, 406, NONE}, {0, 16, 200, 255},
            {0, 32, 406, NONE}, {0, 51, 200, 51}, {32, 32, 406, NONE}, {32, 0, 406, NONE}, {48, 49, 200, 49}};
        for (int[] row : rows) {
            StageDispatcher d = new StageDispatcher();
            Check.root(d, "/a");
            d.method(0, 0, 0, row[0], 0);
            if (row[1] != NONE) {
                d.accept(row[1], 1);
            }
            check.same("produces " + row[0] + ", accepted " + row[1], Check.get(d, "/a"), row[2]);
            check.same("the type of " + row[0] + ", accepted " + row[1], d.produced(), row[3]);
            check.same("invoked", d.invoked(), row[2] == 200 ? 0 : NONE);
        }
        whatComesBehind(check);
        check.end();
    }

    private static void whatComesBehind(Check check) {
        StageDispatcher d = new StageDispatcher();
        check.same("no request", d.produced(), NONE);
        Check.root(d, "/{}");
        d.method(0, 0, 0, 17, 0);
        d.detail(0, NONE, 0, 5);
        check.same("it throws", Check.get(d, "/a"), 500);
        check.same("told all the same", d.produced(), 17);
        d.detail(0, 0, 0, 0);
        check.same("not converted", Check.get(d, "/a"), 404);
        check.same("told all the same", d.produced(), 17);
        d.filter(0, 0, 1, 5, 403);
        d.filter(0, 0, 0, 6, 503);
        check.same("a filter behind the matching ends it", Check.typed(d, "/1").request(0, 0, 5), 403);
        check.same("told all the same", d.produced(), 17);
        check.same("a filter before it ends it", Check.typed(d, "/1").request(0, 0, 6), 503);
        check.same("no matching", d.produced(), NONE);
        check.same("204", Check.request(d, 5, "/1"), 204);
        check.same("no type at 204", d.produced(), NONE);
        check.same("405", Check.request(d, 1, "/1"), 405);
        check.same("no type at 405", d.produced(), NONE);
        check.same("404", Check.request(d, 0, "/"), 404);
        check.same("no type at 404", d.produced(), NONE);
    }
}
