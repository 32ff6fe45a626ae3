/** Promise 16: produced. Which type is that of the answer: see TypesTest and StagesTest. */
public final class Promise16Test {
    private static final int NONE = StageDispatcher.NONE;

    public static void main(String[] args) {
        Check check = new Check();
        answered(check);
        notConcrete(check);
        whateverCameBehind(check);
        thrownInTheMatching(check);
        notWith204(check);
        noMatching(check);
        check.end();
    }

    /** A row: what is produced, what is accepted (NONE for nothing), the status, the type of the answer. */
    private static void rows(Check check, int[][] rows) {
        for (int[] row : rows) {
            StageDispatcher d = Check.rooted("/a");
            d.method(0, 0, 0, row[0], 0);
            if (row[1] != NONE) {
                d.accept(row[1], 1);
            }
            check.same("produces " + row[0] + ", accepted " + row[1], Check.get(d, "/a"), row[2]);
            check.same("the type of " + row[0] + ", accepted " + row[1], d.produced(), row[3]);
            check.same("invoked", d.invoked(), row[2] == 200 ? 0 : NONE);
        }
    }

    private static void answered(Check check) {
        rows(check, new int[][] {
            {17, NONE, 200, 17}, {17, 0, 200, 17}, {17, 16, 200, 17}, {17, 17, 200, 17}, {17, 18, 406, NONE},
            {17, 32, 406, NONE}, {16, 18, 200, 18}, {16, 32, 406, NONE}, {0, 51, 200, 51}, {48, 49, 200, 49}});
    }

    /** "if that is not concrete, it is 255 when it is 0 or 16, and otherwise thrown 10" */
    private static void notConcrete(Check check) {
        rows(check, new int[][] {
            {0, NONE, 200, 255}, {0, 0, 200, 255}, {16, NONE, 200, 255}, {16, 0, 200, 255}, {16, 16, 200, 255},
            {0, 16, 200, 255}, {32, NONE, 406, NONE}, {48, NONE, 406, NONE}, {32, 0, 406, NONE}, {32, 32, 406, NONE},
            {0, 32, 406, NONE}, {48, 0, 406, NONE}, {48, 48, 406, NONE}, {0, 48, 406, NONE}});
    }

    /** "whatever came behind it" */
    private static void whateverCameBehind(Check check) {
        StageDispatcher d = Check.rooted("/{}");
        d.method(0, 0, 0, 17, 0);
        for (int t = 1; t <= 15; t++) {
            d.detail(0, NONE, 0, t);
            Check.get(d, "/a");
            check.same("it throws " + t, d.produced(), 17);
        }
        d.detail(0, 0, 0, 0);
        check.same("not converted", Check.get(d, "/a"), 404);
        check.same("not converted", d.produced(), 17);
        d.filter(0, 0, 1, 5, 403);
        check.same("a filter ends it behind the matching", Check.sent(d, "/1", 5), 403);
        check.same("a filter ends it behind the matching", d.produced(), 17);
        d.filter(0, 0, 1, 6, 204);
        check.same("a filter ends it with 204", Check.sent(d, "/1", 6), 204);
        check.same("a filter ends it with 204", d.produced(), 17);
        d.mapper(8, 204);
        check.same("a mapper gives 204", Check.get(d, "/a"), 204);
        check.same("a mapper gives 204", d.produced(), 17);
    }

    /** "without a throw" .. "otherwise NONE" */
    private static void thrownInTheMatching(Check check) {
        StageDispatcher d = Check.rooted("/a");
        d.method(0, 0, 17, 17, 0);
        for (int t = 8; t <= 11; t++) {
            d.mapper(t, 200);
        }
        Check.get(d, "/a");
        check.same("at first", d.produced(), 17);
        check.same("thrown 8", Check.get(d, "/b"), 200);
        check.same("thrown 8", d.produced(), NONE);
        check.same("thrown 9", Check.request(d, 1, "/a"), 200);
        check.same("thrown 9", d.produced(), NONE);
        check.same("thrown 11", Check.typed(d, "/a").request(0, 18, 0), 200);
        check.same("thrown 11", d.produced(), NONE);
        d.accept(18, 1);
        check.same("thrown 10", Check.get(d, "/a"), 200);
        check.same("thrown 10", d.produced(), NONE);
        check.same("not invoked", d.invoked(), NONE);
    }

    /** "(and not with 204)" */
    private static void notWith204(Check check) {
        StageDispatcher d = Check.rooted("/a");
        d.method(0, 0, 0, 17, 0);
        Check.get(d, "/a");
        check.same("204", Check.request(d, 5, "/a"), 204);
        check.same("204", d.produced(), NONE);
        d.method(0, 5, 0, 18, 0);
        check.same("OPTIONS by a method", Check.request(d, 5, "/a"), 200);
        check.same("OPTIONS by a method", d.produced(), 18);
    }

    private static void noMatching(Check check) {
        StageDispatcher d = Check.rooted("/a");
        d.method(0, 0, 0, 17, 0);
        check.same("no request", d.produced(), NONE);
        d.filter(0, 0, 0, 6, 503);
        Check.get(d, "/a");
        check.same("a filter ends it before the matching", Check.sent(d, "/a", 6), 503);
        check.same("a filter ends it before the matching", d.produced(), NONE);
    }
}
