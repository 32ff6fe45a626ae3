/** Promise 14: parameter. */
public final class Promise14Test {
    private static final int NONE = StageDispatcher.NONE;

    public static void main(String[] args) {
        Check check = new Check();
        inTheirOrder(check);
        characters(check);
        lengths(check);
        noSuchParameter(check);
        whenTheMatchingEnded(check);
        ofTheLatest(check);
        manyAtOnce(check);
        asManyAsThereCanBe(check);
        check.end();
    }

    private static StageDispatcher three() {
        StageDispatcher d = Check.rooted("/{}");
        d.resource(false);
        Check.locator(d, 0, "/l{d}", 1);
        Check.method(d, 1, 0, "/{}/{r}");
        return d;
    }

    private static void inTheirOrder(Check check) {
        StageDispatcher d = three();
        check.same("a request", Check.get(d, "/ab/l7/cd/"), 200);
        check.parameters("in the order in which they counted", d, "ab,7,cd,");
    }

    /** "the i-th character of parameter k (both from 0 on)" .. "NONE when there is no such .. character" */
    private static void characters(Check check) {
        StageDispatcher d = three();
        Check.get(d, "/ab/l7/cd/");
        check.same("the first character", d.parameter(0, 0), 'a');
        check.same("the second", d.parameter(0, 1), 'b');
        check.same("a third, though the path goes on", d.parameter(0, 2), NONE);
        check.same("i -2, though the path begins before it", d.parameter(1, -2), NONE);
        for (int far : Check.FAR) {
            check.same("i " + far, d.parameter(1, far), NONE);
        }
        check.same("an empty one's first character", d.parameter(3, 0), NONE);
        StageDispatcher e = Check.serving("/{}");
        Check.get(e, "/abcdefghijklmnopqrstuvw");
        check.same("the last of 23", e.parameter(0, 22), 'w');
        check.same("one behind it", e.parameter(0, 23), NONE);
        check.same("two behind it", e.parameter(0, 24), NONE);
    }

    /** "the number of its characters for i = NONE" */
    private static void lengths(Check check) {
        StageDispatcher d = three();
        Check.get(d, "/ab/l7/cd/");
        check.same("two", d.parameter(0, NONE), 2);
        check.same("one", d.parameter(1, NONE), 1);
        check.same("an empty one", d.parameter(3, NONE), 0);
        StageDispatcher e = Check.serving("/{r}");
        Check.get(e, "/");
        check.same("an empty one that is the only one", e.parameter(0, NONE), 0);
        Check.get(e, "/abcdefghijklmnopqrstuvw");
        check.same("the longest", e.parameter(0, NONE), 23);
    }

    /** "NONE when there is no such parameter" */
    private static void noSuchParameter(Check check) {
        StageDispatcher d = three();
        check.same("no request", d.parameter(0, NONE), NONE);
        Check.get(d, "/ab/l7/cd/");
        for (int i : new int[] {NONE, 0, 1}) {
            check.same("k 4 of four", d.parameter(4, i), NONE);
            check.same("k -1", d.parameter(-1, i), NONE);
            for (int far : Check.FAR) {
                check.same("k " + far, d.parameter(far, i), NONE);
            }
        }
        StageDispatcher e = Check.serving("/a");
        Check.get(e, "/a");
        check.same("k 0 of none", e.parameter(0, NONE), NONE);
        check.same("k 0 of none, a character", e.parameter(0, 0), NONE);
    }

    /** "(as many as there were when its matching ended)" */
    private static void whenTheMatchingEnded(Check check) {
        StageDispatcher d = three();
        check.same("no root", Check.get(d, "/"), 404);
        check.same("none", d.parameter(0, NONE), NONE);
        check.same("nothing found behind the root", Check.get(d, "/ab/x"), 404);
        check.parameters("that of the root", d, "ab");
        check.same("nothing found behind the hop", Check.get(d, "/ab/l7/cd"), 404);
        check.parameters("that of the locator too", d, "ab,7");
        check.same("thrown 9", Check.request(d, 1, "/ab/l7/cd/ef/g"), 405);
        check.parameters("all of them", d, "ab,7,cd,ef/g");
        check.same("204", Check.request(d, 5, "/ab/l7/cd/ef/g"), 204);
        check.parameters("all of them", d, "ab,7,cd,ef/g");
        d.accept(17, 0);
        check.same("thrown 10", Check.request(d, 0, "/ab/l7/cd/ef/g"), 406);
        check.parameters("all of them", d, "ab,7,cd,ef/g");
        d.detail(0, 0, 0, 0);
        check.same("not converted", Check.get(d, "/ab/l7/cd/"), 404);
        check.parameters("all of them", d, "ab,7,cd,");
        d.filter(0, 0, 1, 6, 403);
        check.same("ended behind the matching", Check.sent(d, "/ab/l7/cd/", 6), 403);
        check.parameters("all of them", d, "ab,7,cd,");
        d.filter(0, 0, 0, 5, 503);
        check.same("ended before the matching", Check.sent(d, "/ab/l7/cd/", 5), 503);
        check.same("none", d.parameter(0, NONE), NONE);
    }

    private static void ofTheLatest(Check check) {
        StageDispatcher d = three();
        Check.get(d, "/ab/l7/cd/");
        Check.typed(d, "/zzzzzzzz");
        check.parameters("what is typed later does not matter", d, "ab,7,cd,");
        check.refused("nor does what is refused", d.request(9, 0, 0));
        check.parameters("nor does what is refused", d, "ab,7,cd,");
        Check.root(d, "/yyyyyyyy");
        check.parameters("nor does a template", d, "ab,7,cd,");
    }

    private static void manyAtOnce(Check check) {
        StageDispatcher d = Check.rooted("/x");
        Check.locator(d, 0, "/{}{}{}{}", 0);
        Check.method(d, 0, 0, "");
        check.same("four groups for each of four hops", Check.get(d, "/x/abcd/efgh/ijkl/mnop"), 200);
        check.parameters("four groups for each of four hops", d, "a,b,c,d,e,f,g,h,i,j,k,l,m,n,o,p");
    }

    /** The root's, those of eight locators and the method's: four groups each, which may be empty. */
    private static void asManyAsThereCanBe(Check check) {
        StageDispatcher d = Check.rooted("/{r}{r}{r}{r}a");
        d.resource(false);
        for (int l = 0; l < 8; l++) {
            Check.locator(d, 0, "/{r}{r}{r}{r}" + (char) ('b' + l), l == 7 ? 1 : 0);
        }
        Check.method(d, 1, 0, "/{r}{r}{r}{r}j");
        check.same("a request", Check.get(d, "/a/b/c/d/e/f/g/h/i/j"), 200);
        check.hops("each locator counts once", d, 0, 0, 0, 0, 0, 0, 0, 1);
        for (int k = 0; k < 40; k++) {
            check.same("parameter " + k + " is empty", d.parameter(k, NONE), 0);
            check.same("parameter " + k + " has no character", d.parameter(k, 0), NONE);
        }
        check.same("parameter 40 is none", d.parameter(40, NONE), NONE);
    }
}
