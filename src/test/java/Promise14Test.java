/** Promise 14: parameter. */
public final class Promise14Test {
    private static final int NONE = StageDispatcher.NONE;

    public static void main(String[] args) {
        Check check = new Check();
        StageDispatcher d = new StageDispatcher();
        Check.root(d, "/{}");
        d.resource(false);
        Check.locator(d, 0, "/l{d}", 1);
        Check.method(d, 1, 0, "/{}/{r}");
        check.same("a request", Check.get(d, "/ab/l7/cd/"), 200);
        check.parameters("in the order in which they counted", d, "ab,7,cd,");
        check.same("the length", d.parameter(0, NONE), 2);
        check.same("the first character", d.parameter(0, 0), 'a');
        check.same("the second", d.parameter(0, 1), 'b');
        check.same("a third", d.parameter(0, 2), NONE);
        check.same("i -2", d.parameter(0, -2), NONE);
        check.same("the least i", d.parameter(0, Integer.MIN_VALUE), NONE);
        check.same("the greatest i", d.parameter(0, Integer.MAX_VALUE), NONE);
        check.same("an empty one's length", d.parameter(3, NONE), 0);
        check.same("an empty one's first character", d.parameter(3, 0), NONE);
        check.same("k 4", d.parameter(4, NONE), NONE);
        check.same("k 4 and a character", d.parameter(4, 0), NONE);
        check.same("k -1", d.parameter(-1, NONE), NONE);
        check.same("the least k", d.parameter(Integer.MIN_VALUE, 0), NONE);
        check.same("the greatest k", d.parameter(Integer.MAX_VALUE, NONE), NONE);

        Check.typed(d, "/zzzzzzzz");
        check.parameters("what is typed later does not matter", d, "ab,7,cd,");
        d.request(9, 0, 0);

        check.same("nothing found behind the hop", Check.get(d, "/ab/l7/cd"), 404);
        check.parameters("as many as there were then", d, "ab,7");
        check.same("nothing found behind the root", Check.get(d, "/ab/x"), 404);
        check.parameters("as many as there were then", d, "ab");
        check.same("no root", Check.get(d, "/"), 404);
        check.parameters("none", d, "");
        check.same("thrown 9", Check.request(d, 1, "/ab/l7/cd/ef/g"), 405);
        check.parameters("all of them", d, "ab,7,cd,ef/g");
        d.filter(0, 0, 0, 5, 503);
        check.same("ended before the matching", Check.typed(d, "/ab/l7/cd/").request(0, 0, 5), 503);
        check.parameters("none", d, "");
        many(check);
        check.end();
    }

    private static void many(Check check) {
        StageDispatcher d = new StageDispatcher();
        Check.root(d, "/x");
        Check.locator(d, 0, "/{}{}{}{}", 0);
        Check.method(d, 0, 0, "");
        check.same("four groups for each of four hops", Check.get(d, "/x/abcd/efgh/ijkl/mnop"), 200);
        check.parameters("four groups for each of four hops", d, "a,b,c,d,e,f,g,h,i,j,k,l,m,n,o,p");
    }
}
