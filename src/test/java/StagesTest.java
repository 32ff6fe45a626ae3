/** Terms: the three stages of matching. */
public final class StagesTest {
    private static final int NONE = StageDispatcher.NONE;

    public static void main(String[] args) {
        Check check = new Check();
        stageOne(check);
        classes(check);
        stageTwo(check);
        methodsBeforeLocators(check);
        hops(check);
        verbs(check);
        contents(check);
        ranksAndQualities(check);
        firstAccepted(check);
        check.end();
    }

    private static void stageOne(Check check) {
        StageDispatcher d = new StageDispatcher();
        Check.root(d, "/ab");
        Check.root(d, "/{r}");
        Check.method(d, 0, 0, "");
        Check.method(d, 1, 0, "");
        check.same("a rest, and nothing that leads deeper", Check.get(d, "/ab/c"), 200);
        check.same("so the lighter one counts", d.invoked(), 1);
        check.same("a rest that is /", Check.get(d, "/ab/"), 200);
        check.same("the heavier one counts", d.invoked(), 0);
        Check.method(d, 0, 0, "/d");
        check.same("a method with a template leads deeper", Check.get(d, "/ab/c"), 404);
        check.same("invoked", d.invoked(), NONE);

        StageDispatcher e = new StageDispatcher();
        Check.root(e, "/ab");
        Check.root(e, "/{r}");
        Check.method(e, 1, 0, "");
        check.same("no locator yet", Check.get(e, "/ab/c"), 200);
        Check.locator(e, 0, "/d", 1);
        check.same("a locator leads deeper", Check.get(e, "/ab/c"), 404);
        check.same("there is no way back", e.allowed(), 0);
        check.same("a root without methods", Check.get(e, "/ab"), 404);

        StageDispatcher f = new StageDispatcher();
        f.resource(false);
        Check.root(f, "/{}");
        Check.method(f, 0, 0, "");
        check.same("no root: it is never the first", Check.get(f, "/a"), 404);
        check.parameters("the root's", f, "a");
    }

    private static void classes(Check check) {
        StageDispatcher d = new StageDispatcher();
        Check.root(d, "/{}");
        Check.root(d, "/{}");
        Check.root(d, "/{d}");
        Check.root(d, "/{r}");
        Check.root(d, "/{d}");
        d.resource(false);
        Check.method(d, 1, 0, "");
        Check.method(d, 1, 0, "/x");
        Check.locator(d, 0, "/l", 1);
        Check.method(d, 3, 0, "");
        Check.method(d, 4, 0, "");
        check.same("as heavy, but another template", Check.get(d, "/1"), 200);
        check.same("it is no class; the one with the same template is", d.invoked(), 3);
        check.parameters("the template's, once", d, "1");

        StageDispatcher e = new StageDispatcher();
        Check.root(e, "/a");
        Check.root(e, "/a");
        Check.method(e, 1, 0, "");
        Check.method(e, 1, 1, "/x");
        Check.method(e, 0, 2, "/x");
        Check.locator(e, 0, "/l", 0);
        check.same("the other class's method", Check.get(e, "/a"), 200);
        check.same("invoked", e.invoked(), 0);
        check.same("methods of both classes", Check.get(e, "/a/x"), 405);
        check.same("verbs of both classes", e.allowed(), 1 << 1 | 1 << 2 | 1 << 5);
        check.same("behind a hop the target is the only class", Check.get(e, "/a/l"), 404);
        check.same("verbs of the target alone", Check.get(e, "/a/l/x"), 405);
        check.same("verbs of the target alone", e.allowed(), 1 << 2 | 1 << 5);
    }

    private static void stageTwo(Check check) {
        StageDispatcher d = new StageDispatcher();
        Check.root(d, "/a");
        Check.method(d, 0, 1, "");
        Check.method(d, 0, 0, "/{r}");
        check.same("/ goes to the methods without a template", Check.get(d, "/a/"), 405);
        check.same("theirs are the verbs", d.allowed(), 1 << 1 | 1 << 5);
        check.same("// does not", Check.get(d, "/a//"), 200);
        check.parameters("it goes to the template", d, "/");

        StageDispatcher e = new StageDispatcher();
        Check.root(e, "/a");
        Check.method(e, 0, 0, "/{r}");
        check.same("no method without a template: / matches", Check.get(e, "/a/"), 200);
        check.same("no method without a template: nothing is left to match", Check.get(e, "/a"), 404);

        StageDispatcher f = new StageDispatcher();
        Check.root(f, "/a");
        Check.method(f, 0, 0, "/{}");
        Check.method(f, 0, 1, "/{d}");
        Check.method(f, 0, 2, "/{d}");
        Check.method(f, 0, 3, "/{r}");
        check.same("the heaviest counts whatever its verb", Check.get(f, "/a/1"), 405);
        check.same("the candidates have the same template", f.allowed(), 1 << 1 | 1 << 2 | 1 << 5);
        check.same("a rest is none of a method's", Check.get(f, "/a/x/y"), 405);
        check.same("so it is the last", f.allowed(), 1 << 3 | 1 << 5);
        check.parameters("those of templates that did not count are none", f, "x/y");
    }

    private static void methodsBeforeLocators(Check check) {
        StageDispatcher d = new StageDispatcher();
        Check.root(d, "/a");
        d.resource(false);
        Check.locator(d, 0, "/{d}", 1);
        Check.method(d, 0, 0, "/{r}");
        Check.method(d, 1, 0, "");
        check.same("equally heavy", Check.get(d, "/a/1"), 200);
        check.same("the method's", d.invoked(), 0);
        Check.locator(d, 0, "/b{}", 1);
        check.same("the locator's is heavier", Check.get(d, "/a/b1"), 200);
        check.same("so it counts", d.invoked(), 1);
        check.hops("so it counts", d, 1);
        Check.method(d, 0, 0, "/bc{}");
        check.same("the method's is heavier", Check.get(d, "/a/bc1"), 200);
        check.same("so it counts", d.invoked(), 2);
        check.same("a method's leaves no rest, a locator's does", Check.get(d, "/a/bc1/x"), 404);
        check.hops("a method's leaves no rest, a locator's does", d, 1);
    }

    private static void hops(Check check) {
        StageDispatcher d = new StageDispatcher();
        Check.root(d, "/a");
        Check.root(d, "/b");
        Check.locator(d, 0, "/{r}", 1);
        Check.method(d, 1, 0, "");
        Check.method(d, 1, 1, "/{}");
        check.same("all is taken", Check.get(d, "/a/x/y/"), 200);
        check.parameters("all is taken", d, "x/y/");
        check.same("U is /, and taken", Check.get(d, "/a/"), 200);
        check.hops("U is /, and taken", d, 1);
        check.same("U is empty: no locator matches", Check.get(d, "/a"), 404);
        check.hops("U is empty: no locator matches", d);
        Check.locator(d, 0, "/l{}", 1);
        check.same("the rest goes on", Check.request(d, 1, "/a/lx/y"), 200);
        check.parameters("the rest goes on", d, "x,y");
        check.same("the rest is /", Check.get(d, "/a/lx/"), 200);
        check.same("invoked", d.invoked(), 0);
    }

    private static void verbs(Check check) {
        StageDispatcher d = new StageDispatcher();
        Check.root(d, "/a");
        Check.method(d, 0, 1, "");
        check.same("HEAD without GET", Check.request(d, 4, "/a"), 405);
        check.same("OPTIONS without a method", Check.request(d, 5, "/a"), 204);
        Check.method(d, 0, 0, "");
        check.same("HEAD by GET", Check.request(d, 4, "/a"), 200);
        check.same("invoked", d.invoked(), 1);
        Check.method(d, 0, 4, "");
        check.same("HEAD by HEAD", Check.request(d, 4, "/a"), 200);
        check.same("invoked", d.invoked(), 2);
        Check.method(d, 0, 5, "");
        check.same("OPTIONS by a method", Check.request(d, 5, "/a"), 200);
        check.same("invoked", d.invoked(), 3);
        check.same("GET never by HEAD", Check.get(d, "/a"), 200);
        check.same("invoked", d.invoked(), 1);

        StageDispatcher e = new StageDispatcher();
        Check.root(e, "/a");
        e.method(0, 4, 17, 0, 0);
        e.method(0, 0, 0, 0, 0);
        check.same("HEAD is there, GET is not kept instead", Check.typed(e, "/a").request(4, 33, 0), 415);
        check.same("OPTIONS ends before the types", Check.typed(e, "/a").request(5, 33, 0), 204);
    }

    private static void contents(Check check) {
        int[][] rows = {
            {0, 17, 1}, {16, 17, 1}, {17, 17, 1}, {18, 17, 0}, {32, 17, 0}, {33, 17, 0}, {48, 51, 1}, {16, 35, 0}, {0, 0, 1},
            {17, 0, 1}, {32, 0, 1}};
        for (int[] row : rows) {
            StageDispatcher d = new StageDispatcher();
            Check.root(d, "/a");
            d.method(0, 1, row[0], 17, 0);
            d.method(0, 0, 0, 17, 0);
            check.same("consumes " + row[0] + ", content " + row[1], Check.typed(d, "/a").request(1, row[1], 0),
                    row[2] == 1 ? 200 : 415);
        }
        StageDispatcher d = new StageDispatcher();
        Check.root(d, "/a");
        d.method(0, 1, 17, 17, 0);
        d.accept(33, 1);
        check.same("415 comes before 406", Check.typed(d, "/a").request(1, 18, 0), 415);
    }

    /** Each pair of methods in both orders; the better one is told by its rows. */
    private static void ranksAndQualities(Check check) {
        // consumes, produces, quality of the better one; of the other one; content; pairs of accepted types and qs
        int[][] rows = {
            {17, 0, 0, 16, 17, 1000, 17, 0, 1000},
            {16, 0, 0, 0, 17, 1000, 17, 0, 1000},
            {0, 16, 1000, 17, 17, 0, 0, 17, 500},
            {0, 17, 0, 17, 16, 1000, 0, 0, 500},
            {0, 17, 0, 0, 33, 1000, 0, 33, 499, 17, 500},
            {0, 17, 0, 0, 32, 1000, 0, 17, 1, 32, 1000},
            {0, 17, 6, 0, 18, 5, 0, 0, 1000},
            {0, 17, 6, 0, 18, 5, 0, 17, 10, 18, 10},
            {0, 17, 5, 0, 16, 5, 0, 17, 1000},
            {0, 16, 5, 0, 0, 5, 0, 17, 1000},
            {0, 0, 6, 0, 17, 5, 0, 17, 1000},
            {0, 16, 5, 0, 17, 5, 0, 33, 1000, 16, 9, 18, 10},
            {0, 17, 0, 0, 33, 1000, 0, 17, 1, 33, 0}};
        for (int[] row : rows) {
            check.same("better first " + java.util.Arrays.toString(row), chosen(row, true), 0);
            check.same("better second " + java.util.Arrays.toString(row), chosen(row, false), 1);
        }
        int[] equal = {0, 17, 5, 16, 18, 5, 0, 0, 1000};
        check.same("equals: the lowest number", chosen(equal, true), 0);
        check.same("equals the other way round: the lowest number", chosen(equal, false), 0);
    }

    private static int chosen(int[] row, boolean betterFirst) {
        StageDispatcher d = new StageDispatcher();
        Check.root(d, "/a");
        int first = betterFirst ? 0 : 3;
        d.method(0, 1, row[first], row[first + 1], row[first + 2]);
        d.method(0, 1, row[3 - first], row[4 - first], row[5 - first]);
        for (int i = 7; i < row.length; i += 2) {
            d.accept(row[i], row[i + 1]);
        }
        Check.typed(d, "/a").request(1, row[6], 0);
        return d.invoked();
    }

    private static void firstAccepted(Check check) {
        StageDispatcher d = new StageDispatcher();
        Check.root(d, "/a");
        d.method(0, 0, 0, 0, 0);
        d.accept(18, 7);
        d.accept(33, 7);
        Check.get(d, "/a");
        check.same("the one accepted first, among equals", d.produced(), 18);
        d.accept(33, 7);
        d.accept(18, 7);
        Check.get(d, "/a");
        check.same("the other way round", d.produced(), 33);
        d.accept(18, 7);
        d.accept(33, 8);
        Check.get(d, "/a");
        check.same("the greater q", d.produced(), 33);
        d.accept(0, 1000);
        d.accept(16, 1);
        d.accept(49, 1);
        Check.get(d, "/a");
        check.same("the greater rank", d.produced(), 49);
        d.accept(0, 1000);
        d.accept(32, 1);
        check.same("a type too open is thrown, though another one would do", Check.get(d, "/a"), 406);
        check.same("and is none", d.produced(), NONE);

        StageDispatcher e = new StageDispatcher();
        Check.root(e, "/a");
        e.method(0, 0, 17, 32, 0);
        e.method(0, 0, 0, 18, 1000);
        check.same("the method that counts is too open, though another one is not",
                Check.typed(e, "/a").request(0, 17, 0), 406);
        check.same("without a content type the other one counts", Check.get(e, "/a"), 200);
        check.same("invoked", e.invoked(), 1);
    }
}
