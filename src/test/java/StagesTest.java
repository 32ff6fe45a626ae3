/** Terms: the three stages of matching. */
public final class StagesTest {
    private static final int NONE = StageDispatcher.NONE;

    public static void main(String[] args) {
        Check check = new Check();
        stageOne(check);
        restsOfRoots(check);
        noRoot(check);
        lowestRoot(check);
        classes(check);
        deeperByAnotherClass(check);
        stageTwo(check);
        emptyOrSlash(check);
        restsOfMethods(check);
        nothingInStageTwo(check);
        noWayBack(check);
        methodsBeforeLocators(check);
        lowestOfTheClasses(check);
        hops(check);
        verbs(check);
        noCandidateLeft(check);
        contents(check);
        nothingAccepted(check);
        leftOutForGood(check);
        ranksAndQualities(check);
        theOrderOfComparing(check);
        twelveEquals(check);
        firstAccepted(check);
        check.end();
    }

    private static void stageOne(Check check) {
        StageDispatcher d = new StageDispatcher();
        Check.root(d, "/ab");
        Check.root(d, "/{r}");
        Check.method(d, 0, 0, "");
        Check.method(d, 1, 0, "");
        check.same("a rest, and nothing that leads deeper", Check.get(d, "/ab/c"), 200);
        check.same("so the lighter one counts", d.invoked(), 1);
        check.same("a rest that is /", Check.get(d, "/ab/"), 200);
        check.same("the heavier one counts", d.invoked(), 0);
        Check.method(d, 0, 0, "/d");
        check.same("a method with a template leads deeper", Check.get(d, "/ab/c"), 404);
        check.same("invoked", d.invoked(), NONE);

        StageDispatcher e = new StageDispatcher();
        Check.root(e, "/ab");
        Check.root(e, "/{r}");
        Check.method(e, 1, 0, "");
        check.same("no locator yet", Check.get(e, "/ab/c"), 200);
        Check.locator(e, 0, "/d", 1);
        check.same("a locator leads deeper", Check.get(e, "/ab/c"), 404);
        check.same("there is no way back", e.allowed(), 0);
        check.same("a root without methods", Check.get(e, "/ab"), 404);

        StageDispatcher f = new StageDispatcher();
        f.resource(false);
        Check.root(f, "/{}");
        Check.method(f, 0, 0, "");
        check.same("no root: it is never the first", Check.get(f, "/a"), 404);
        check.parameters("the root's", f, "a");
    }

    /** "(with a rest that is empty or /, or the resource has a method with a template or a locator)" */
    private static void restsOfRoots(Check check) {
        String[] paths = {"/a", "/a/", "/a//", "/a/x"};
        for (int i = 0; i < paths.length; i++) {
            for (int has = 0; has <= 2; has++) {
                StageDispatcher d = Check.rooted("/a");
                Check.root(d, "/{r}");
                Check.method(d, 0, 0, "");
                Check.method(d, 1, 0, "");
                if (has == 1) {
                    Check.method(d, 0, 0, "/y");
                }
                if (has == 2) {
                    Check.locator(d, 0, "/y", 0);
                }
                boolean first = i < 2;
                int due = first || has == 0 ? 200 : 404;
                check.same(paths[i] + " with " + has, Check.get(d, paths[i]), due);
                check.same("invoked at " + paths[i] + " with " + has, d.invoked(), due == 404 ? NONE : first ? 0 : 1);
            }
        }
        StageDispatcher d = Check.rooted("/a");
        d.resource(false);
        Check.method(d, 1, 0, "/y");
        Check.locator(d, 1, "/y", 1);
        Check.method(d, 0, 0, "");
        check.same("those of another resource do not count", Check.get(d, "/a/y"), 404);
    }

    /** "If there is none: thrown 8." */
    private static void noRoot(Check check) {
        StageDispatcher d = new StageDispatcher();
        d.mapper(8, 208);
        check.same("no resource at all", Check.get(d, "/a"), 208);
        d.resource(false);
        Check.method(d, 0, 0, "");
        Check.method(d, 0, 0, "/a");
        check.same("no root", Check.get(d, "/a"), 208);
        check.same("no root, for /", Check.get(d, "/"), 208);
        Check.root(d, "/b");
        Check.method(d, 1, 0, "");
        check.same("none that matches", Check.get(d, "/a"), 208);
        check.same("none that matches with such a rest", Check.get(d, "/b/c"), 208);
        check.same("none that matches with such a rest", Check.get(d, "/b//"), 208);
        check.same("not even for OPTIONS", Check.request(d, 5, "/a"), 208);
        check.same("one that does", Check.get(d, "/b"), 200);
    }

    /** "of these the one with the lowest number counts": of six that are equally heavy */
    private static void lowestRoot(Check check) {
        String[] templates = {"/x{}", "/{}2", "/{d}1", "/1{r}", "/1{d}", "/{r}2"};
        StageDispatcher d = new StageDispatcher();
        for (int r = 0; r < 6; r++) {
            Check.root(d, templates[r]);
            Check.method(d, r, 0, "");
        }
        // Those with a group other than {} are heavier: numbers 2 to 5.
        check.same("a request", Check.get(d, "/12"), 200);
        check.same("3, 4 and 5 match, and are equally heavy", d.invoked(), 3);
        check.same("a request", Check.get(d, "/22"), 200);
        check.same("5 is heavier than 1", d.invoked(), 5);
        check.same("a request", Check.get(d, "/11"), 200);
        check.same("2, 3 and 4 match", d.invoked(), 2);
    }

    /** "the CLASSES are all root resources that have the same template, character by character" */
    private static void classes(Check check) {
        StageDispatcher d = new StageDispatcher();
        Check.root(d, "/{}");
        Check.root(d, "/{}");
        Check.root(d, "/{d}");
        Check.root(d, "/{r}");
        Check.root(d, "/{d}");
        d.resource(false);
        Check.method(d, 1, 0, "");
        Check.method(d, 1, 0, "/x");
        Check.locator(d, 0, "/l", 1);
        Check.method(d, 3, 0, "");
        Check.method(d, 4, 0, "");
        check.same("as heavy, but another template", Check.get(d, "/1"), 200);
        check.same("it is no class; the one with the same template is", d.invoked(), 3);
        check.parameters("the template's, once", d, "1");

        StageDispatcher e = new StageDispatcher();
        Check.root(e, "/a");
        Check.root(e, "/a");
        Check.method(e, 1, 0, "");
        Check.method(e, 1, 1, "/x");
        Check.method(e, 0, 2, "/x");
        Check.locator(e, 0, "/l", 0);
        check.same("the other class's method", Check.get(e, "/a"), 200);
        check.same("invoked", e.invoked(), 0);
        check.same("methods of both classes", Check.get(e, "/a/x"), 405);
        check.same("verbs of both classes", e.allowed(), 1 << 1 | 1 << 2 | 1 << 5);
        check.same("behind a hop the target is the only class", Check.get(e, "/a/l"), 404);
        check.same("verbs of the target alone", Check.get(e, "/a/l/x"), 405);
        check.same("verbs of the target alone", e.allowed(), 1 << 2 | 1 << 5);
    }

    /** A root that leads no deeper is a class still, by one with the same template that does. */
    private static void deeperByAnotherClass(Check check) {
        StageDispatcher d = Check.rooted("/a");
        Check.root(d, "/a");
        Check.method(d, 0, 0, "");
        Check.method(d, 1, 0, "/x");
        check.same("by the second", Check.get(d, "/a/x"), 200);
        check.same("by the second", d.invoked(), 1);
        check.same("by the first", Check.get(d, "/a"), 200);
        check.same("by the first", d.invoked(), 0);
        check.same("by the first", Check.get(d, "/a/"), 200);
    }

    private static void stageTwo(Check check) {
        StageDispatcher d = new StageDispatcher();
        Check.root(d, "/a");
        Check.method(d, 0, 1, "");
        Check.method(d, 0, 0, "/{r}");
        check.same("/ goes to the methods without a template", Check.get(d, "/a/"), 405);
        check.same("theirs are the verbs", d.allowed(), 1 << 1 | 1 << 5);
        check.same("// does not", Check.get(d, "/a//"), 200);
        check.parameters("it goes to the template", d, "/");

        StageDispatcher e = new StageDispatcher();
        Check.root(e, "/a");
        Check.method(e, 0, 0, "/{r}");
        check.same("no method without a template: / matches", Check.get(e, "/a/"), 200);
        check.same("no method without a template: nothing is left to match", Check.get(e, "/a"), 404);

        StageDispatcher f = new StageDispatcher();
        Check.root(f, "/a");
        Check.method(f, 0, 0, "/{}");
        Check.method(f, 0, 1, "/{d}");
        Check.method(f, 0, 2, "/{d}");
        Check.method(f, 0, 3, "/{r}");
        check.same("the heaviest counts whatever its verb", Check.get(f, "/a/1"), 405);
        check.same("the candidates have the same template", f.allowed(), 1 << 1 | 1 << 2 | 1 << 5);
        check.same("a rest is none of a method's", Check.get(f, "/a/x/y"), 405);
        check.same("so it is the last", f.allowed(), 1 << 3 | 1 << 5);
        check.parameters("those of templates that did not count are none", f, "x/y");
    }

    /** "If U is empty or /, and the classes have methods without a template": U is "", /, // and /x. */
    private static void emptyOrSlash(Check check) {
        String[] texts = {"", "/", "//", "/x"};
        for (int i = 0; i < texts.length; i++) {
            StageDispatcher d = Check.rooted("/a");
            d.resource(false);
            Check.locator(d, 0, "/{r}", 1);
            Check.method(d, 1, 0, "");
            check.same("no method at all: a locator, U is " + texts[i], Check.get(d, "/a" + texts[i]), i == 0 ? 404 : 200);
            check.text("no method at all: a locator, U is " + texts[i], Check.hops(d), i == 0 ? "" : "1");
            Check.method(d, 0, 0, "/{r}");
            check.same("one with a template, U is " + texts[i], Check.get(d, "/a" + texts[i]), i == 0 ? 404 : 200);
            check.same("one with a template, U is " + texts[i], d.invoked(), i == 0 ? NONE : 1);
            Check.method(d, 0, 0, "");
            check.same("one without, U is " + texts[i], Check.get(d, "/a" + texts[i]), 200);
            check.same("one without, U is " + texts[i], d.invoked(), i <= 1 ? 2 : 1);
            check.text("one without, U is " + texts[i], Check.parameters(d), i <= 1 ? "" : texts[i].substring(1));
        }
        StageDispatcher d = Check.rooted("/a");
        Check.root(d, "/a");
        Check.method(d, 0, 0, "/{r}");
        Check.method(d, 1, 1, "");
        check.same("another class has one without", Check.get(d, "/a/"), 405);
    }

    /** "that match U with a rest that is empty or /": the rest of the way that counts. */
    private static void restsOfMethods(Check check) {
        String[][] rows = {
            {"/x", "/x", "200"}, {"/x", "/x/", "200"}, {"/x", "/x//", "404"}, {"/x", "/x/x", "404"}, {"/x", "/xx", "404"},
            {"/{}", "/x/", "200"}, {"/{}", "/x//", "404"}, {"/{}", "/x/y", "404"}, {"/{d}", "/1/", "200"}, {"/{d}", "/1/2", "404"},
            {"/{r}", "/x//", "200"}, {"/{r}", "/", "200"}, {"/{r}x", "/x/x/", "200"}, {"/{r}x", "/x/y", "404"},
            {"/{r}x", "/x/y/x", "200"}, {"/{}{r}", "/x//", "200"}, {"/{r}/{d}", "/1/2/", "200"}, {"/{r}/{d}", "/1/2/x", "404"}};
        for (String[] row : rows) {
            StageDispatcher d = Check.rooted("/a");
            Check.method(d, 0, 0, row[0]);
            check.same(row[0] + " and U " + row[1], Check.get(d, "/a" + row[1]), Integer.parseInt(row[2]));
        }
    }

    /** "If there is none: thrown 8." */
    private static void nothingInStageTwo(Check check) {
        StageDispatcher d = Check.rooted("/{}");
        d.mapper(8, 208);
        check.same("a class without anything, U is empty", Check.get(d, "/a"), 208);
        check.parameters("the root's", d, "a");
        check.same("allowed", d.allowed(), 0);
        check.same("a class without anything, U is /", Check.get(d, "/a/"), 208);
        Check.method(d, 0, 0, "/x");
        check.same("a method whose template does not match, U is empty", Check.get(d, "/a"), 208);
        check.same("a method whose template does not match", Check.get(d, "/a/y"), 208);
        check.same("a method whose template has a rest", Check.get(d, "/a/x/y"), 208);
        Check.locator(d, 0, "/l", 0);
        check.same("a locator whose template does not match", Check.get(d, "/a/y"), 208);
        check.hops("a locator whose template does not match", d);
        check.same("behind a hop", Check.get(d, "/a/l/y"), 208);
        check.hops("behind a hop", d, 0);
        check.same("behind a hop, U is empty", Check.get(d, "/a/l"), 208);
        check.same("not even for OPTIONS", Check.request(d, 5, "/a/l"), 208);
    }

    /** "The heaviest counts": what comes of it later does not bring another one back. */
    private static void noWayBack(Check check) {
        StageDispatcher d = Check.rooted("/a");
        d.resource(false);
        Check.method(d, 0, 0, "/{r}");
        Check.locator(d, 0, "/b", 1);
        check.same("the method's", Check.get(d, "/a/c"), 200);
        check.same("the locator's is heavier, and leads nowhere", Check.get(d, "/a/b"), 404);
        check.hops("the locator's is heavier, and leads nowhere", d, 1);
        Check.method(d, 0, 1, "/c");
        check.same("the heavier method's has another verb", Check.get(d, "/a/c"), 405);
    }

    /** "then that of the method, or locator, with the lowest number": among all classes */
    private static void lowestOfTheClasses(Check check) {
        StageDispatcher d = Check.rooted("/a");
        Check.root(d, "/a");
        d.resource(false);
        Check.method(d, 1, 1, "/{d}");
        Check.method(d, 0, 2, "/{r}");
        check.same("that of the second class is lower", Check.get(d, "/a/1"), 405);
        check.same("it alone has that template", d.allowed(), 1 << 1 | 1 << 5);
        Check.method(d, 0, 3, "/{d}");
        check.same("that of the second class is lower", Check.get(d, "/a/1"), 405);
        check.same("both classes have that template", d.allowed(), 1 << 1 | 1 << 3 | 1 << 5);
        Check.locator(d, 1, "/x{}", 2);
        Check.locator(d, 0, "/{}y", 1);
        Check.get(d, "/a/xy");
        check.hops("the locator of the second class is lower", d, 2);
    }

    /** "among equally heavy ones those of methods before those of locators" */
    private static void methodsBeforeLocators(Check check) {
        StageDispatcher d = new StageDispatcher();
        Check.root(d, "/a");
        d.resource(false);
        Check.locator(d, 0, "/{d}", 1);
        Check.method(d, 0, 0, "/{r}");
        Check.method(d, 1, 0, "");
        check.same("equally heavy", Check.get(d, "/a/1"), 200);
        check.same("the method's", d.invoked(), 0);
        Check.locator(d, 0, "/b{}", 1);
        check.same("the locator's is heavier", Check.get(d, "/a/b1"), 200);
        check.same("so it counts", d.invoked(), 1);
        check.hops("so it counts", d, 1);
        Check.method(d, 0, 0, "/bc{}");
        check.same("the method's is heavier", Check.get(d, "/a/bc1"), 200);
        check.same("so it counts", d.invoked(), 2);
        check.same("a method's leaves no rest, a locator's does", Check.get(d, "/a/bc1/x"), 404);
        check.hops("a method's leaves no rest, a locator's does", d, 1);
    }

    /** "U becomes its rest, the classes become its target alone (a HOP), and stage 2 is done again" */
    private static void hops(Check check) {
        StageDispatcher d = new StageDispatcher();
        Check.root(d, "/a");
        Check.root(d, "/b");
        Check.locator(d, 0, "/{r}", 1);
        Check.method(d, 1, 0, "");
        Check.method(d, 1, 1, "/{}");
        check.same("all is taken", Check.get(d, "/a/x/y/"), 200);
        check.parameters("all is taken", d, "x/y/");
        check.same("U is /, and taken", Check.get(d, "/a/"), 200);
        check.hops("U is /, and taken", d, 1);
        check.same("U is empty: no locator matches", Check.get(d, "/a"), 404);
        check.hops("U is empty: no locator matches", d);
        Check.locator(d, 0, "/l{}", 1);
        check.same("the rest goes on", Check.request(d, 1, "/a/lx/y"), 200);
        check.parameters("the rest goes on", d, "x,y");
        check.same("the rest is /", Check.get(d, "/a/lx/"), 200);
        check.same("invoked", d.invoked(), 0);
    }

    private static void verbs(Check check) {
        StageDispatcher d = new StageDispatcher();
        Check.root(d, "/a");
        Check.method(d, 0, 1, "");
        check.same("HEAD without GET", Check.request(d, 4, "/a"), 405);
        check.same("OPTIONS without a method", Check.request(d, 5, "/a"), 204);
        Check.method(d, 0, 0, "");
        check.same("HEAD by GET", Check.request(d, 4, "/a"), 200);
        check.same("invoked", d.invoked(), 1);
        Check.method(d, 0, 4, "");
        check.same("HEAD by HEAD", Check.request(d, 4, "/a"), 200);
        check.same("invoked", d.invoked(), 2);
        Check.method(d, 0, 5, "");
        check.same("OPTIONS by a method", Check.request(d, 5, "/a"), 200);
        check.same("invoked", d.invoked(), 3);
        check.same("GET never by HEAD", Check.get(d, "/a"), 200);
        check.same("invoked", d.invoked(), 1);

        StageDispatcher e = new StageDispatcher();
        Check.root(e, "/a");
        e.method(0, 4, 17, 0, 0);
        e.method(0, 0, 0, 0, 0);
        check.same("HEAD is there, GET is not kept instead", Check.typed(e, "/a").request(4, 33, 0), 415);
        check.same("OPTIONS ends before the types", Check.typed(e, "/a").request(5, 33, 0), 204);
    }

    /**
     * "if none is left and the verb is 4, those with verb 0 are kept instead; if none is left and the
     * verb is 5, the request ends with the status 204; if none is left otherwise: thrown 9"
     */
    private static void noCandidateLeft(Check check) {
        for (int had = 0; had <= 5; had++) {
            for (int verb = 0; verb <= 5; verb++) {
                StageDispatcher d = Check.rooted("/a");
                Check.method(d, 0, had, "");
                d.mapper(9, 209);
                boolean served = had == verb || had == 0 && verb == 4;
                check.same("the verb " + verb + " of a method with " + had, Check.request(d, verb, "/a"),
                        served ? 200 : verb == 5 ? 204 : 209);
                check.same("invoked", d.invoked(), served ? 0 : NONE);
            }
        }
    }

    /** "those are left out whose type consumed does not cover it; if none is left: thrown 11" */
    private static void contents(Check check) {
        int[][] rows = {
            {0, 17, 1}, {16, 17, 1}, {17, 17, 1}, {18, 17, 0}, {32, 17, 0}, {33, 17, 0}, {48, 51, 1}, {16, 35, 0}, {0, 0, 1},
            {17, 0, 1}, {32, 0, 1}};
        for (int[] row : rows) {
            StageDispatcher d = new StageDispatcher();
            Check.root(d, "/a");
            d.method(0, 1, row[0], 17, 0);
            d.method(0, 0, 0, 17, 0);
            check.same("consumes " + row[0] + ", content " + row[1], Check.typed(d, "/a").request(1, row[1], 0),
                    row[2] == 1 ? 200 : 415);
        }
        StageDispatcher d = new StageDispatcher();
        Check.root(d, "/a");
        d.method(0, 1, 17, 17, 0);
        d.accept(33, 1);
        check.same("415 comes before 406", Check.typed(d, "/a").request(1, 18, 0), 415);
    }

    /** "with a q above 0 (if no type was accepted, that is type 0 with q 1000)" */
    private static void nothingAccepted(Check check) {
        StageDispatcher d = Check.rooted("/a");
        d.method(0, 0, 0, 17, 0);
        check.same("nothing", Check.get(d, "/a"), 200);
        d.accept(0, 0);
        check.same("any type with a q of 0 is not nothing", Check.get(d, "/a"), 406);
        for (int k = 0; k < 4; k++) {
            d.accept(k == 0 ? 0 : 15 + k, 0);
        }
        check.same("four types with a q of 0", Check.get(d, "/a"), 406);
        d.accept(17, 0);
        d.accept(0, 1);
        check.same("a q of 0 leaves out its own type alone", Check.get(d, "/a"), 200);
        check.same("a q of 0 leaves out its own type alone", d.produced(), 17);
        d.accept(17, 1);
        check.same("a q of 1", Check.get(d, "/a"), 200);
        d.method(0, 0, 0, 33, 0);
        d.accept(17, 0);
        d.accept(33, 1);
        check.same("another method", Check.get(d, "/a"), 200);
        check.same("another method", d.invoked(), 1);
    }

    /** A method that is left out does not come back, however well it would do in what comes later. */
    private static void leftOutForGood(Check check) {
        StageDispatcher d = Check.rooted("/a");
        d.method(0, 1, 0, 17, 1000);
        d.method(0, 0, 17, 18, 0);
        Check.typed(d, "/m").method(0, 0, 0, 17, 1000);
        d.accept(17, 1000);
        check.same("for its verb", Check.get(d, "/a"), 406);
        check.same("not invoked", d.invoked(), NONE);
        check.same("for its verb, the other for its content", Check.typed(d, "/a").request(0, 33, 0), 415);
        StageDispatcher e = Check.rooted("/a");
        e.method(0, 0, 17, 33, 1000);
        e.method(0, 0, 16, 33, 1000);
        e.method(0, 0, 0, 17, 0);
        e.accept(17, 1);
        check.same("for the type produced, though the type consumed ranks above",
                Check.typed(e, "/a").request(0, 17, 0), 200);
        check.same("for the type produced", e.invoked(), 2);
        e.accept(33, 0);
        e.accept(17, 1);
        check.same("for a q of 0", Check.typed(e, "/a").request(0, 17, 0), 200);
        check.same("for a q of 0", e.invoked(), 2);
    }

    /**
     * "compared in this order": each row is greater than all behind it, whatever they are in what
     * is compared later. The numbers do not run into one another.
     */
    private static void theOrderOfComparing(Check check) {
        int[] consumed = {17, 16, 0};
        // what is produced, and the quality
        int[][] rows = {
            {35, 1000}, {32, 1000}, {0, 1000}, {35, 0}, {32, 0}, {0, 0}, {50, 1000}, {48, 1000}, {50, 0}, {48, 0}, {16, 1000},
            {16, 0}};
        int count = consumed.length * rows.length;
        for (int high = 0; high < count; high++) {
            for (int low = high + 1; low < count; low++) {
                StageDispatcher d = Check.rooted("/a");
                int[] lower = rows[low % rows.length];
                int[] higher = rows[high % rows.length];
                d.method(0, 0, consumed[low / rows.length], lower[0], lower[1]);
                d.method(0, 0, consumed[high / rows.length], higher[0], higher[1]);
                d.accept(16, 1);
                d.accept(50, 1);
                d.accept(35, 1000);
                check.same("a request", Check.typed(d, "/a").request(0, 17, 0), 200);
                check.same("row " + high + " is greater than row " + low, d.invoked(), 1);
            }
        }
    }

    /** "and among equals the one with the lowest number" */
    private static void twelveEquals(Check check) {
        StageDispatcher d = Check.rooted("/a");
        for (int m = 0; m < 12; m++) {
            d.method(0, m == 0 ? 1 : 0, 17, 17, 500);
        }
        check.same("a request", Check.typed(d, "/a").request(0, 17, 0), 200);
        check.same("the lowest number", d.invoked(), 1);
        StageDispatcher e = Check.rooted("/a");
        for (int m = 0; m < 12; m++) {
            e.method(0, 0, 17, 17, m == 11 ? 501 : 500);
        }
        Check.typed(e, "/a").request(0, 17, 0);
        check.same("the last is greater", e.invoked(), 11);
    }

    /** Each pair of methods in both orders; the better one is told by its rows. */
    private static void ranksAndQualities(Check check) {
        // consumes, produces, quality of the better one; of the other one; content; pairs of accepted types and qs
        int[][] rows = {
            {17, 0, 0, 16, 17, 1000, 17, 0, 1000},
            {16, 0, 0, 0, 17, 1000, 17, 0, 1000},
            {0, 16, 1000, 17, 17, 0, 0, 17, 500},
            {0, 17, 0, 17, 16, 1000, 0, 0, 500},
            {0, 17, 0, 0, 33, 1000, 0, 33, 499, 17, 500},
            {0, 17, 0, 0, 32, 1000, 0, 17, 1, 32, 1000},
            {0, 17, 6, 0, 18, 5, 0, 0, 1000},
            {0, 17, 6, 0, 18, 5, 0, 17, 10, 18, 10},
            {0, 17, 5, 0, 16, 5, 0, 17, 1000},
            {0, 16, 5, 0, 0, 5, 0, 17, 1000},
            {0, 0, 6, 0, 17, 5, 0, 17, 1000},
            {0, 16, 5, 0, 17, 5, 0, 33, 1000, 16, 9, 18, 10},
            {0, 17, 0, 0, 33, 1000, 0, 17, 1, 33, 0}};
        for (int[] row : rows) {
            check.same("better first " + java.util.Arrays.toString(row), chosen(row, true), 0);
            check.same("better second " + java.util.Arrays.toString(row), chosen(row, false), 1);
        }
        int[] equal = {0, 17, 5, 16, 18, 5, 0, 0, 1000};
        check.same("equals: the lowest number", chosen(equal, true), 0);
        check.same("equals the other way round: the lowest number", chosen(equal, false), 0);
    }

    private static int chosen(int[] row, boolean betterFirst) {
        StageDispatcher d = new StageDispatcher();
        Check.root(d, "/a");
        int first = betterFirst ? 0 : 3;
        d.method(0, 1, row[first], row[first + 1], row[first + 2]);
        d.method(0, 1, row[3 - first], row[4 - first], row[5 - first]);
        for (int i = 7; i < row.length; i += 2) {
            d.accept(row[i], row[i + 1]);
        }
        Check.typed(d, "/a").request(1, row[6], 0);
        return d.invoked();
    }

    /** "The type of the answer is where they meet for that greatest one (the one accepted first, among equals)" */
    private static void firstAccepted(Check check) {
        StageDispatcher d = new StageDispatcher();
        Check.root(d, "/a");
        d.method(0, 0, 0, 0, 0);
        d.accept(18, 7);
        d.accept(33, 7);
        Check.get(d, "/a");
        check.same("the one accepted first, among equals", d.produced(), 18);
        d.accept(33, 7);
        d.accept(18, 7);
        Check.get(d, "/a");
        check.same("the other way round", d.produced(), 33);
        d.accept(18, 7);
        d.accept(33, 8);
        Check.get(d, "/a");
        check.same("the greater q", d.produced(), 33);
        d.accept(0, 1000);
        d.accept(16, 1);
        d.accept(49, 1);
        Check.get(d, "/a");
        check.same("the greater rank", d.produced(), 49);
        d.accept(0, 1000);
        d.accept(32, 1);
        check.same("a type too open is thrown, though another one would do", Check.get(d, "/a"), 406);
        check.same("and is none", d.produced(), NONE);

        StageDispatcher e = new StageDispatcher();
        Check.root(e, "/a");
        e.method(0, 0, 17, 32, 0);
        e.method(0, 0, 0, 18, 1000);
        check.same("the method that counts is too open, though another one is not",
                Check.typed(e, "/a").request(0, 17, 0), 406);
        check.same("without a content type the other one counts", Check.get(e, "/a"), 200);
        check.same("invoked", e.invoked(), 1);
    }
}
