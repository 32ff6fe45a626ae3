/** Terms: how a request goes on, step by step. */
public final class FlowTest {
    private static final int NONE = StageDispatcher.NONE;

    public static void main(String[] args) {
        Check check = new Check();
        theOrderOfTheSteps(check);
        convertedAfterTheFilters(check);
        invokedAfterTheConversion(check);
        whateverCameBefore(check);
        boundAtTheEnd(check);
        check.end();
    }

    private static StageDispatcher named(int name) {
        StageDispatcher d = Check.serving("/{}");
        d.detail(0, NONE, name, 0);
        return d;
    }

    private static void theOrderOfTheSteps(Check check) {
        StageDispatcher d = named(0);
        for (int kind = 2; kind >= 0; kind--) {
            d.filter(50, 0, kind, 9, 0);
        }
        check.same("a request", Check.get(d, "/1"), 200);
        check.ran("kind 0, kind 1, kind 2", d, 2, 1, 0);
        check.same("a request", Check.get(d, "/"), 404);
        check.ran("step 3 is behind the matching", d, 2, 0);
    }

    /** Step 3 comes before step 4. */
    private static void convertedAfterTheFilters(Check check) {
        StageDispatcher d = named(0);
        d.detail(0, 0, 0, 0);
        d.filter(0, 0, 1, 5, 403);
        check.same("what cannot be converted", Check.sent(d, "/x", 5), 403);
        check.same("the filter does not run into it", Check.sent(d, "/x", 4), 404);
        check.ran("it ran", d, 0);
    }

    /** Step 4 comes before step 5. */
    private static void invokedAfterTheConversion(Check check) {
        StageDispatcher d = named(0);
        d.detail(0, 0, 0, 9);
        check.same("thrown 8 by the conversion", Check.get(d, "/x"), 404);
        check.same("not invoked", d.invoked(), NONE);
        check.same("thrown 9 by the method", Check.get(d, "/1"), 405);
        check.same("invoked", d.invoked(), 0);
        d.detail(0, 0, 0, 0);
        check.same("otherwise the status is 200", Check.get(d, "/1"), 200);
    }

    /** "6. The filters of kind 2 run, whatever came before" */
    private static void whateverCameBefore(Check check) {
        StageDispatcher d = Check.rooted("/{}");
        d.method(0, 0, 17, 17, 0);
        d.detail(0, 0, 0, 0);
        d.filter(0, 0, 2, 0, 0);
        check.same("200", Check.get(d, "/1"), 200);
        check.ran("200", d, 0);
        check.same("204", Check.request(d, 5, "/1"), 204);
        check.ran("204", d, 0);
        check.same("thrown 8 by stage 1", Check.get(d, "/"), 404);
        check.ran("thrown 8 by stage 1", d, 0);
        check.same("thrown 9", Check.request(d, 1, "/1"), 405);
        check.ran("thrown 9", d, 0);
        check.same("thrown 11", Check.typed(d, "/1").request(0, 18, 0), 415);
        check.ran("thrown 11", d, 0);
        d.accept(18, 1);
        check.same("thrown 10", Check.get(d, "/1"), 406);
        check.ran("thrown 10", d, 0);
        check.same("thrown 8 by step 4", Check.get(d, "/x"), 404);
        check.ran("thrown 8 by step 4", d, 0);
        d.detail(0, 0, 0, 3);
        check.same("thrown by the method", Check.get(d, "/1"), 500);
        check.ran("thrown by the method", d, 0);
        d.filter(0, 0, 1, 5, 403);
        check.same("ended in step 3", Check.sent(d, "/1", 5), 403);
        check.ran("ended in step 3", d, 1, 0);
        d.filter(0, 0, 0, 6, 503);
        check.same("ended in step 1", Check.sent(d, "/1", 6), 503);
        check.ran("ended in step 1", d, 2, 0);
    }

    /**
     * "if the matching came to its end without a throw (a status 204 is not such an end), those
     * bound to the method, otherwise those with the name 0"
     */
    private static void boundAtTheEnd(Check check) {
        StageDispatcher d = Check.rooted("/{}");
        d.method(0, 0, 17, 17, 0);
        d.detail(0, 0, 1, 0);
        d.filter(0, 1, 2, 0, 500);
        d.filter(0, 0, 2, 0, 0);
        d.filter(0, 2, 2, 0, 0);
        check.same("200", Check.get(d, "/1"), 200);
        check.ran("200", d, 0, 1);
        check.same("204", Check.request(d, 5, "/1"), 204);
        check.ran("204 is no such end", d, 1);
        check.same("thrown 8 by stage 1", Check.get(d, "/"), 404);
        check.ran("thrown 8 by stage 1", d, 1);
        check.same("thrown 9", Check.request(d, 1, "/1"), 405);
        check.ran("thrown 9", d, 1);
        check.same("thrown 11", Check.typed(d, "/1").request(0, 18, 0), 415);
        check.ran("thrown 11", d, 1);
        d.accept(18, 1);
        check.same("thrown 10", Check.get(d, "/1"), 406);
        check.ran("thrown 10", d, 1);
        check.same("thrown 8 by step 4", Check.get(d, "/x"), 404);
        check.ran("thrown 8 by step 4 is behind the matching", d, 0, 1);
        d.detail(0, 0, 1, 8);
        check.same("thrown by the method", Check.get(d, "/1"), 404);
        check.ran("thrown by the method", d, 0, 1);
        d.filter(0, 0, 1, 5, 204);
        check.same("204 by a filter behind the matching", Check.sent(d, "/1", 5), 204);
        check.ran("the matching came to its end", d, 3, 0, 1);
        d.filter(0, 0, 0, 9, 200);
        check.same("ended before the matching", Check.sent(d, "/1", 9), 200);
        check.ran("there was no matching", d, 4, 1);
    }
}
