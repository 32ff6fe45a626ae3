/** Promise 5: detail. */
public final class Promise05Test {
    private static final int NONE = StageDispatcher.NONE;

    public static void main(String[] args) {
        Check check = new Check();
        become(check);
        converting(check);
        names(check);
        throwing(check);
        methods(check);
        refusedOnesChangeNothing(check);
        bufferIsLeftAlone(check);
        check.end();
    }

    private static void become(Check check) {
        StageDispatcher d = Check.serving("/{}");
        Check.method(d, 0, 1, "");
        d.filter(0, 3, 2, 0, 0);
        check.yes("details", d.detail(0, 0, 3, 15));
        check.same("it throws", Check.get(d, "/7"), 500);
        check.same("it converts", d.argument(), 7);
        check.ran("its name is 3", d, 0);
        check.same("the other method has none", Check.request(d, 1, "/7"), 200);
        check.same("it converts nothing", d.argument(), 0);
        check.ran("its name is 0", d);
        check.yes("other details", d.detail(0, NONE, 0, 0));
        check.same("it throws nothing any more", Check.get(d, "/7"), 200);
        check.same("it converts nothing any more", d.argument(), 0);
        check.ran("its name is 0 again", d);
    }

    /** "the number of the parameter that it converts (0 .. 9, or NONE)": ten are there. */
    private static void converting(Check check) {
        StageDispatcher d = Check.rooted("/{}{}{}{}");
        Check.locator(d, 0, "/{}{}{}{}", 0);
        Check.method(d, 0, 0, "/{}{}");
        String path = "/9876/5432/10";
        for (int k = 0; k <= 9; k++) {
            check.yes("converts " + k, d.detail(0, k, 0, 0));
            check.same("a request", Check.get(d, path), 200);
            check.same("parameter " + k, d.argument(), 9 - k);
        }
        check.yes("converts NONE", d.detail(0, NONE, 0, 0));
        Check.get(d, path);
        check.same("none", d.argument(), 0);
        d.detail(0, 8, 0, 0);
        check.no("converts 10", d.detail(0, 10, 0, 0));
        check.no("converts -2", d.detail(0, -2, 0, 0));
        for (int far : Check.FAR) {
            check.no("converts " + far, d.detail(0, far, 0, 0));
        }
        Check.get(d, path);
        check.same("the latest one that was taken", d.argument(), 1);
    }

    /** "its name (0 .. 3)" */
    private static void names(Check check) {
        StageDispatcher d = Check.serving("/a");
        for (int name = 0; name <= 3; name++) {
            d.filter(0, name, 2, 0, 0);
        }
        for (int name = 3; name >= 0; name--) {
            check.yes("name " + name, d.detail(0, NONE, name, 0));
            Check.get(d, "/a");
            check.text("name " + name, Check.ran(d), name == 0 ? "0" : "0," + name);
        }
        d.detail(0, NONE, 2, 0);
        check.no("name -1", d.detail(0, NONE, -1, 0));
        check.no("name 4", d.detail(0, NONE, 4, 0));
        for (int far : Check.FAR) {
            check.no("name " + far, d.detail(0, NONE, far, 0));
        }
        Check.get(d, "/a");
        check.ran("the latest one that was taken", d, 0, 2);
    }

    /** "what it throws (1 .. 15, or 0 for nothing)" */
    private static void throwing(Check check) {
        StageDispatcher d = Check.serving("/a");
        for (int t = 1; t <= 15; t++) {
            d.mapper(t, 300 + t);
        }
        for (int t = 15; t >= 0; t--) {
            check.yes("throws " + t, d.detail(0, NONE, 0, t));
            check.same("throws " + t, Check.get(d, "/a"), t == 0 ? 200 : 300 + t);
        }
        d.detail(0, NONE, 0, 12);
        check.no("throws -1", d.detail(0, NONE, 0, -1));
        check.no("throws 16", d.detail(0, NONE, 0, 16));
        for (int far : Check.FAR) {
            check.no("throws " + far, d.detail(0, NONE, 0, far));
        }
        check.same("the latest one that was taken", Check.get(d, "/a"), 312);
    }

    /** "Refused (false) when there is no such method" */
    private static void methods(Check check) {
        StageDispatcher d = Check.rooted("/a");
        check.no("method 0 of none", d.detail(0, NONE, 0, 0));
        Check.method(d, 0, 0, "");
        Check.method(d, 0, 1, "");
        check.no("method -1", d.detail(-1, NONE, 0, 7));
        check.no("method 2 of two", d.detail(2, NONE, 0, 7));
        for (int far : Check.FAR) {
            check.no("method " + far, d.detail(far, NONE, 0, 7));
        }
        check.same("the first is as it was", Check.get(d, "/a"), 200);
        check.same("the second is as it was", Check.request(d, 1, "/a"), 200);
        check.yes("method 1 of two", d.detail(1, NONE, 0, 7));
        check.same("it throws", Check.request(d, 1, "/a"), 500);
        check.same("a method that comes later has no details", Check.method(d, 0, 2, ""), 2);
        check.same("a method that comes later has no details", Check.request(d, 2, "/a"), 200);
    }

    /** One number is wrong, the others would change all details. */
    private static void refusedOnesChangeNothing(Check check) {
        int[][] rows = {{1, 1, 1, 1}, {-1, 1, 1, 1}, {0, 10, 1, 1}, {0, -2, 1, 1}, {0, 1, 4, 1}, {0, 1, -1, 1},
            {0, 1, 1, 16}, {0, 1, 1, -1}};
        for (int[] row : rows) {
            String what = java.util.Arrays.toString(row);
            StageDispatcher d = Check.serving("/{}{}");
            d.filter(0, 1, 2, 0, 0);
            d.filter(0, 3, 2, 0, 0);
            d.mapper(1, 301);
            d.mapper(15, 315);
            d.detail(0, 0, 3, 15);
            check.no(what, d.detail(row[0], row[1], row[2], row[3]));
            check.same("it throws as before, behind " + what, Check.get(d, "/78"), 315);
            check.same("it converts as before, behind " + what, d.argument(), 7);
            check.ran("its name is as before, behind " + what, d, 1);
        }
    }

    private static void bufferIsLeftAlone(Check check) {
        StageDispatcher d = Check.serving("/{}");
        Check.typed(d, "/8");
        check.yes("details", d.detail(0, 0, 0, 1));
        check.no("refused", d.detail(0, 0, 0, 16));
        check.same("the buffer is as it was", d.request(0, 0, 0), 500);
        check.same("its argument", d.argument(), 8);
        check.yes("the details of later requests", d.detail(0, NONE, 0, 0));
        check.same("what is told of the latest one stays", d.argument(), 8);
    }
}
