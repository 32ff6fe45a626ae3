/** Promise 3: resource. */
public final class Promise03Test {
    private static final int NONE = StageDispatcher.NONE;

    public static void main(String[] args) {
        Check check = new Check();
        StageDispatcher d = new StageDispatcher();
        check.same("not good", Check.root(d, "a"), NONE);
        check.same("the buffer was emptied by the refused call", Check.root(d, "/a"), 0);
        check.same("an empty template", d.resource(true), NONE);
        check.same("no root, with a bad text in the buffer", Check.typed(d, "}{").resource(false), 1);
        check.same("no root, with a good text in the buffer", Check.typed(d, "/b").resource(false), 2);
        check.same("the buffer is empty", d.request(0, 0, 0), NONE);
        Check.method(d, 2, 0, "");
        check.same("the text gave it no template", Check.get(d, "/b"), 404);
        check.same("a root", Check.root(d, "/b"), 3);
        check.same("a root with the same template", Check.root(d, "/b"), 4);
        check.same("the sixth", Check.root(d, "/{}"), 5);
        check.same("a seventh root", Check.root(d, "/c"), NONE);
        check.same("the buffer was emptied", d.request(0, 0, 0), NONE);
        check.same("a seventh that is no root", d.resource(false), NONE);
        Check.method(d, 5, 0, "");
        Check.method(d, 3, 1, "");
        check.same("the seventh is not there", Check.get(d, "/c"), 200);
        check.same("it is the sixth that answers", d.invoked(), 1);
        check.end();
    }
}
