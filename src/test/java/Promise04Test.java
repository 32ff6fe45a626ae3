/** Promise 4: method. */
public final class Promise04Test {
    private static final int NONE = StageDispatcher.NONE;

    public static void main(String[] args) {
        Check check = new Check();
        templates(check);
        noDetails(check);
        usesTheBuffer(check);
        notGood(check);
        resources(check);
        verbs(check);
        types(check);
        qualities(check);
        twelve(check);
        eachRefusalEmptiesTheBuffer(check);
        check.end();
    }

    /** "its template is that in the buffer, none if the buffer is empty" */
    private static void templates(Check check) {
        StageDispatcher d = Check.rooted("/a");
        check.same("without a template", Check.method(d, 0, 0, ""), 0);
        check.same("with one", Check.method(d, 0, 0, "/{}"), 1);
        check.same("a request", Check.get(d, "/a/x"), 200);
        check.same("with one", d.invoked(), 1);
        check.same("a request", Check.get(d, "/a"), 200);
        check.same("without a template", d.invoked(), 0);
        StageDispatcher e = Check.rooted("/a");
        check.same("one of 24 characters", Check.method(e, 0, 0, "/{r}{r}{r}{r}/aaaaaaaaaa"), 0);
        check.same("a request", Check.get(e, "/a/b/aaaaaaaaaa"), 200);
        check.parameters("a request", e, "b,,,");
    }

    /** "it has no details (it converts and throws nothing, its name is 0)" */
    private static void noDetails(Check check) {
        StageDispatcher d = Check.serving("/{}");
        d.filter(0, 0, 2, 0, 0);
        d.filter(0, 1, 2, 0, 0);
        d.filter(0, 2, 2, 0, 0);
        d.filter(0, 3, 2, 0, 0);
        check.same("it throws nothing", Check.get(d, "/7"), 200);
        check.same("it converts nothing", d.argument(), 0);
        check.ran("its name is 0", d, 0);
        check.same("it converts nothing, so it need not be a number", Check.get(d, "/x"), 200);
    }

    /** "Uses the buffer" */
    private static void usesTheBuffer(Check check) {
        StageDispatcher d = Check.rooted("/a");
        check.same("a method", Check.method(d, 0, 0, "/b"), 0);
        check.same("the next one has no template", d.method(0, 1, 0, 0, 0), 1);
        check.same("a request", Check.request(d, 1, "/a"), 200);
        check.same("a request", Check.request(d, 1, "/a/b"), 405);
    }

    /** "Refused (NONE) when the buffer holds something that is no good template" */
    private static void notGood(Check check) {
        String[] bad = {"/", "a", "b", "{}", "/a/", "/{", "/}", "/{x}", "/{}{}{}{}{}", "//", "}"};
        StageDispatcher d = Check.rooted("/a");
        for (String text : bad) {
            check.refused("a method with " + text, Check.method(d, 0, 0, text));
            check.refused("the buffer was emptied behind " + text, d.request(0, 0, 0));
        }
        check.same("no number was used up", d.method(0, 0, 0, 0, 0), 0);
    }

    /** "there is no such resource" */
    private static void resources(Check check) {
        StageDispatcher d = new StageDispatcher();
        check.refused("resource 0 of none", d.method(0, 0, 0, 0, 0));
        Check.root(d, "/a");
        d.resource(false);
        check.refused("resource -1", d.method(-1, 0, 0, 0, 0));
        check.refused("resource 2 of two", d.method(2, 0, 0, 0, 0));
        for (int far : Check.FAR) {
            check.refused("resource " + far, d.method(far, 0, 0, 0, 0));
        }
        check.same("resource 1 of two, which is no root", d.method(1, 0, 0, 0, 0), 0);
        check.same("resource 0 of two", d.method(0, 0, 0, 0, 0), 1);
    }

    /** "there is no such .. verb" */
    private static void verbs(Check check) {
        StageDispatcher d = Check.rooted("/a");
        check.refused("verb -1", d.method(0, -1, 0, 0, 0));
        check.refused("verb 6", d.method(0, 6, 0, 0, 0));
        for (int far : Check.FAR) {
            check.refused("verb " + far, d.method(0, far, 0, 0, 0));
        }
        for (int verb = 0; verb <= 5; verb++) {
            check.same("verb " + verb, d.method(0, verb, 0, 0, 0), verb);
        }
        for (int verb = 0; verb <= 5; verb++) {
            check.same("a request with verb " + verb, Check.request(d, verb, "/a"), 200);
            check.same("invoked with verb " + verb, d.invoked(), verb);
        }
    }

    /** "there is no such .. type" */
    private static void types(Check check) {
        for (int type = -70; type <= 300; type++) {
            StageDispatcher d = Check.rooted("/a");
            boolean due = type == 0 || type >= 16 && type < 64 && type % 16 <= 3;
            check.same("consumes " + type, d.method(0, 0, type, 0, 0), due ? 0 : NONE);
            check.same("produces " + type, d.method(0, 0, 0, type, 0), due ? 1 : NONE);
        }
        StageDispatcher d = Check.rooted("/a");
        for (int far : Check.FAR) {
            check.refused("consumes " + far, d.method(0, 0, far, 0, 0));
            check.refused("produces " + far, d.method(0, 0, 0, far, 0));
        }
    }

    /** "its quality is 0 .. 1000", refused when "quality is not as said" */
    private static void qualities(Check check) {
        StageDispatcher d = Check.rooted("/a");
        check.refused("quality -1", d.method(0, 0, 0, 17, -1));
        check.refused("quality 1001", d.method(0, 0, 0, 17, 1001));
        for (int far : Check.FAR) {
            check.refused("quality " + far, d.method(0, 0, 0, 17, far));
        }
        int[] rising = {0, 1, 999, 1000};
        for (int m = 0; m < rising.length; m++) {
            check.same("quality " + rising[m], d.method(0, 0, 0, 17, rising[m]), m);
            Check.get(d, "/a");
            check.same("the greatest quality so far counts", d.invoked(), m);
        }
    }

    /** "or 12 methods are there" */
    private static void twelve(Check check) {
        StageDispatcher d = Check.rooted("/a");
        for (int m = 0; m < 12; m++) {
            check.same("method " + m, Check.method(d, 0, m % 6, m % 2 == 0 ? "" : "/b"), m);
        }
        check.refused("a thirteenth", Check.method(d, 0, 0, "/c"));
        check.refused("the buffer was emptied", d.request(0, 0, 0));
        check.refused("a thirteenth without a template", Check.method(d, 0, 3, ""));
        check.same("the thirteenth is not there", Check.get(d, "/a/c"), 404);
        check.same("nor is its verb", Check.request(d, 3, "/a"), 405);
        check.no("nor are its details", d.detail(12, NONE, 0, 0));
        check.yes("those of the twelfth are", d.detail(11, NONE, 0, 7));
        check.same("the twelfth answers", Check.request(d, 5, "/a/b"), 200);
        check.same("by the lower of two that are alike", d.invoked(), 5);
    }

    /** Each row is refused for one reason; the template typed before it is gone. */
    private static void eachRefusalEmptiesTheBuffer(Check check) {
        int[][] rows = {{1, 0, 0, 0, 0}, {-1, 0, 0, 0, 0}, {0, 6, 0, 0, 0}, {0, -1, 0, 0, 0}, {0, 0, 1, 0, 0},
            {0, 0, 64, 0, 0}, {0, 0, 0, 20, 0}, {0, 0, 0, -16, 0}, {0, 0, 0, 0, 1001}, {0, 0, 0, 0, -1}};
        for (int[] row : rows) {
            String what = java.util.Arrays.toString(row);
            StageDispatcher d = Check.rooted("/a");
            check.refused(what, Check.typed(d, "/b").method(row[0], row[1], row[2], row[3], row[4]));
            check.same("no number was used up by " + what, d.method(0, 0, 0, 0, 0), 0);
            check.same("it has no template behind " + what, Check.get(d, "/a"), 200);
            check.same("it has no template behind " + what, Check.get(d, "/a/b"), 404);
        }
    }
}
