/** Promise 6: locator. */
public final class Promise06Test {
    public static void main(String[] args) {
        Check check = new Check();
        targets(check);
        usesTheBuffer(check);
        notGood(check);
        noResource(check);
        noTarget(check);
        eight(check);
        check.end();
    }

    /** "this target (perhaps the resource itself, or a root one)" */
    private static void targets(Check check) {
        StageDispatcher d = Check.rooted("/a");
        d.resource(false);
        Check.root(d, "/c");
        Check.method(d, 1, 0, "");
        Check.method(d, 2, 0, "");
        Check.method(d, 0, 0, "/m");
        check.same("to one without a template", Check.locator(d, 0, "/b", 1), 0);
        check.same("to itself", Check.locator(d, 0, "/s", 0), 1);
        check.same("to a root one", Check.locator(d, 0, "/{d}", 2), 2);
        check.same("of one without a template", Check.locator(d, 1, "/n", 0), 3);
        check.same("the first", Check.get(d, "/a/b"), 200);
        check.same("its method", d.invoked(), 0);
        check.same("the second, twice", Check.get(d, "/a/s/s/m"), 200);
        check.same("its method", d.invoked(), 2);
        check.hops("the second, twice", d, 0, 0);
        check.same("the third: the root's template is of no use", Check.get(d, "/a/5"), 200);
        check.same("its method", d.invoked(), 1);
        check.hops("the third", d, 2);
        check.same("the fourth", Check.get(d, "/a/b/n/m"), 200);
        check.hops("the fourth", d, 1, 0);
    }

    /** "Uses the buffer" */
    private static void usesTheBuffer(Check check) {
        StageDispatcher d = Check.rooted("/a");
        check.same("a locator", Check.locator(d, 0, "/b", 0), 0);
        check.refused("nothing is left of its template", d.locator(0, 0));
        check.refused("one that is refused", Check.locator(d, 0, "/b", 1));
        check.refused("nothing is left of its template", d.locator(0, 0));
        check.same("no number was used up", Check.locator(d, 0, "/c", 0), 1);
    }

    /** "Refused (NONE) when the template is not good" */
    private static void notGood(Check check) {
        String[] bad = {"", "/", "a", "{}", "/a/", "/{", "/}", "/{x}", "/{}{}{}{}{}", "//"};
        StageDispatcher d = Check.rooted("/a");
        for (String text : bad) {
            check.refused("a locator with " + text, Check.locator(d, 0, text, 0));
            check.refused("the buffer was emptied behind " + text, d.request(0, 0, 0));
        }
        check.same("no number was used up", Check.locator(d, 0, "/aaaaaaaaaaaaaaaaaaaaaaa", 0), 0);
    }

    /** "resource .. is no resource" */
    private static void noResource(Check check) {
        StageDispatcher d = new StageDispatcher();
        check.refused("resource 0 of none", Check.locator(d, 0, "/b", 0));
        Check.root(d, "/a");
        d.resource(false);
        check.refused("resource -1", Check.locator(d, -1, "/b", 1));
        check.refused("resource 2 of two", Check.locator(d, 2, "/b", 1));
        for (int far : Check.FAR) {
            check.refused("resource " + far, Check.locator(d, far, "/b", 1));
            check.refused("the buffer was emptied", d.request(0, 0, 0));
        }
        check.same("resource 1 of two", Check.locator(d, 1, "/b", 1), 0);
    }

    /** "or target is no resource" */
    private static void noTarget(Check check) {
        StageDispatcher d = Check.rooted("/a");
        d.resource(false);
        check.refused("target -1", Check.locator(d, 0, "/b", -1));
        check.refused("target 2 of two", Check.locator(d, 0, "/b", 2));
        for (int far : Check.FAR) {
            check.refused("target " + far, Check.locator(d, 0, "/b", far));
            check.refused("the buffer was emptied", d.request(0, 0, 0));
        }
        check.same("none is there", Check.get(d, "/a/b"), 404);
        check.hops("none is there", d);
        check.same("target 1 of two", Check.locator(d, 0, "/b", 1), 0);
        Check.get(d, "/a/b");
        check.hops("it is there", d, 1);
    }

    /** "or 8 are there" */
    private static void eight(Check check) {
        StageDispatcher d = Check.rooted("/a");
        for (int l = 0; l < 8; l++) {
            check.same("locator " + l, Check.locator(d, 0, l == 7 ? "/z" : "/x", 0), l);
        }
        check.refused("a ninth", Check.locator(d, 0, "/y", 0));
        check.refused("the buffer was emptied", d.request(0, 0, 0));
        Check.get(d, "/a/y");
        check.hops("the ninth is not there", d);
        Check.get(d, "/a/z");
        check.hops("the eighth is", d, 0);
    }
}
