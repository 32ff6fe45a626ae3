/** Promise 4: method. */
public final class Promise04Test {
    private static final int NONE = StageDispatcher.NONE;

    public static void main(String[] args) {
        Check check = new Check();
        adding(check);
        refusals(check);
        types(check);
        twelve(check);
        check.end();
    }

    private static void adding(Check check) {
        StageDispatcher d = new StageDispatcher();
        Check.root(d, "/a");
        check.same("without a template", Check.method(d, 0, 0, ""), 0);
        check.same("with one", Check.method(d, 0, 0, "/{}"), 1);
        d.filter(0, 1, 2, 0, 0);
        d.filter(0, 0, 2, 0, 0);
        check.same("request", Check.get(d, "/a/x"), 200);
        check.same("it throws nothing", d.invoked(), 1);
        check.same("it converts nothing", d.argument(), 0);
        check.ran("its name is 0", d, 1);
        check.same("request", Check.get(d, "/a"), 200);
        check.same("the other one", d.invoked(), 0);
    }

    private static void refusals(Check check) {
        StageDispatcher d = new StageDispatcher();
        Check.root(d, "/a");
        check.same("a bad template", Check.typed(d, "/a/").method(0, 0, 0, 0, 0), NONE);
        check.same("a text that begins without /", Check.typed(d, "b").method(0, 0, 0, 0, 0), NONE);
        check.same("resource -1", d.method(-1, 0, 0, 0, 0), NONE);
        check.same("resource 1", d.method(1, 0, 0, 0, 0), NONE);
        check.same("verb -1", d.method(0, -1, 0, 0, 0), NONE);
        check.same("verb 6", d.method(0, 6, 0, 0, 0), NONE);
        check.same("quality -1", d.method(0, 0, 0, 0, -1), NONE);
        check.same("quality 1001", d.method(0, 0, 0, 0, 1001), NONE);
        check.same("resource is the least int", d.method(Integer.MIN_VALUE, 0, 0, 0, 0), NONE);
        check.same("resource is the greatest int", d.method(Integer.MAX_VALUE, 0, 0, 0, 0), NONE);
        check.same("a good template, refused for the verb", Check.typed(d, "/b").method(0, 9, 0, 0, 0), NONE);
        check.same("the buffer was emptied, and no number used up", d.method(0, 0, 0, 0, 1000), 0);
        check.same("the template is none", Check.get(d, "/a"), 200);
        check.same("quality 0", d.method(0, 5, 0, 0, 0), 1);
    }

    private static void types(Check check) {
        for (int type = -70; type <= 300; type++) {
            StageDispatcher d = new StageDispatcher();
            Check.root(d, "/a");
            boolean due = type == 0 || type >= 16 && type < 64 && type % 16 <= 3;
            check.same("consumes " + type, d.method(0, 0, type, 0, 0), due ? 0 : NONE);
            check.same("produces " + type, d.method(0, 0, 0, type, 0), due ? 1 : NONE);
        }
    }

    private static void twelve(Check check) {
        StageDispatcher d = new StageDispatcher();
        Check.root(d, "/a");
        for (int m = 0; m < 12; m++) {
            check.same("method " + m, Check.method(d, 0, m % 6, m % 2 == 0 ? "" : "/b"), m);
        }
        check.same("a thirteenth", Check.method(d, 0, 0, "/c"), NONE);
        check.same("the buffer was emptied", d.request(0, 0, 0), NONE);
        check.same("the thirteenth is not there", Check.get(d, "/a/c"), 404);
        check.no("nor its details", d.detail(12, NONE, 0, 0));
        check.yes("those of the twelfth are", d.detail(11, NONE, 0, 0));
    }
}
