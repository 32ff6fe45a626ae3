/** Promise 3: resource. */
public final class Promise03Test {
    public static void main(String[] args) {
        Check check = new Check();
        numbers(check);
        whateverTheBufferHolds(check);
        usesTheBuffer(check);
        six(check);
        notGood(check);
        longest(check);
        check.end();
    }

    private static void numbers(Check check) {
        StageDispatcher d = new StageDispatcher();
        check.same("a root", Check.root(d, "/a"), 0);
        check.same("one without a template", d.resource(false), 1);
        check.same("a root with the same template", Check.root(d, "/a"), 2);
        Check.method(d, 0, 0, "");
        Check.method(d, 1, 1, "");
        Check.method(d, 2, 2, "");
        check.same("a request", Check.get(d, "/a"), 200);
        check.same("both roots are there", d.allowed(), 1 | 1 << 2 | 1 << 4 | 1 << 5);
    }

    /** "(root false) one without a template, whatever the buffer holds" */
    private static void whateverTheBufferHolds(Check check) {
        String[] texts = {"", "/", "/b", "b", "}{", "/{}", "/{x}", "/{}{}{}{}{}", "/aaaaaaaaaaaaaaaaaaaaaaa",
            "{{{{{{{{{{{{{{{{{{{{{{{{"};
        for (String text : texts) {
            StageDispatcher d = new StageDispatcher();
            check.same("with " + text, Check.typed(d, text).resource(false), 0);
            check.refused("the buffer is empty behind " + text, d.request(0, 0, 0));
            Check.method(d, 0, 0, "");
            check.same("it is no root", Check.get(d, "/b"), 404);
        }
    }

    /** "Uses the buffer": it is empty behind each call, be it refused or not. */
    private static void usesTheBuffer(Check check) {
        StageDispatcher d = new StageDispatcher();
        check.same("a good one", Check.root(d, "/a"), 0);
        check.refused("nothing is left of it", d.resource(true));
        check.refused("one that is not good", Check.root(d, "a"));
        check.same("nothing is left of it", Check.root(d, "/b"), 1);
        Check.method(d, 1, 0, "");
        check.same("its template is what was typed last", Check.get(d, "/b"), 200);
    }

    /** "Refused (NONE) when six are there" */
    private static void six(Check check) {
        StageDispatcher d = new StageDispatcher();
        for (int r = 0; r < 6; r++) {
            check.same("resource " + r, r % 2 == 0 ? d.resource(false) : Check.root(d, "/{}"), r);
        }
        check.refused("a seventh root", Check.root(d, "/c"));
        check.refused("the buffer was emptied", d.request(0, 0, 0));
        check.refused("a seventh without a template", Check.typed(d, "/c").resource(false));
        check.refused("the buffer was emptied", d.request(0, 0, 0));
        check.refused("a seventh that is not good", Check.root(d, "c"));
        check.refused("there is no number 6", Check.method(d, 6, 0, ""));
        check.same("there is a number 5", Check.method(d, 5, 0, ""), 0);
        check.same("the seventh does not answer", Check.get(d, "/c"), 200);
        check.parameters("the sixth does", d, "c");
    }

    /** "or root and the template is not good" */
    private static void notGood(Check check) {
        String[] bad = {"", "/", "a", "{}", "/a/", "/{", "/}", "/{x}", "/{}{}{}{}{}", "//"};
        StageDispatcher d = new StageDispatcher();
        for (String text : bad) {
            check.refused("a root with " + text, Check.root(d, text));
            check.refused("the buffer was emptied behind " + text, d.request(0, 0, 0));
        }
        check.same("no number was used up", Check.root(d, "/a"), 0);
    }

    private static void longest(Check check) {
        StageDispatcher d = Check.serving("/abcdefghijklmnopqrs/{d}");
        check.same("a template of 24 characters", Check.get(d, "/abcdefghijklmnopqrs/12"), 200);
        check.parameters("a template of 24 characters", d, "12");
        check.same("a path of 24 characters", Check.get(d, "/abcdefghijklmnopqrs/123"), 200);
        check.parameters("a path of 24 characters", d, "123");
        check.same("a path that differs in its last character", Check.get(d, "/abcdefghijklmnopqrs/12x"), 404);
    }
}
