/** Promise 1: a new object. Each method tests what one part of its sentence names. */
public final class Promise01Test {
    private static final int NONE = StageDispatcher.NONE;

    public static void main(String[] args) {
        Check check = new Check();
        noResources(check);
        noMethods(check);
        noLocators(check);
        noFilters(check);
        noMappers(check);
        bufferIsEmpty(check);
        nothingIsAccepted(check);
        noRequestWasMade(check);
        nothingInCommon(check);
        check.end();
    }

    private static void noResources(Check check) {
        StageDispatcher d = new StageDispatcher();
        for (int r = -1; r <= 6; r++) {
            check.refused("a method of resource " + r, Check.method(d, r, 0, ""));
            check.refused("a locator of resource " + r, Check.locator(d, r, "/a", r));
        }
        check.same("a request finds none", Check.get(d, "/a"), 404);
        check.same("nor does one for /", Check.get(d, "/"), 404);
        check.same("the first is number 0", Check.root(d, "/a"), 0);
        check.same("or one without a template is", new StageDispatcher().resource(false), 0);
        for (int r = 1; r < 6; r++) {
            check.same("all six fit", d.resource(false), r);
        }
    }

    private static void noMethods(Check check) {
        StageDispatcher d = Check.rooted("/a");
        for (int m = -1; m <= 12; m++) {
            check.no("details of method " + m, d.detail(m, NONE, 0, 0));
        }
        check.same("a request finds none", Check.get(d, "/a"), 404);
        check.same("the first is number 0", Check.method(d, 0, 0, ""), 0);
    }

    private static void noLocators(Check check) {
        StageDispatcher d = Check.rooted("/a");
        check.same("a request finds none", Check.get(d, "/a/b"), 404);
        check.hops("it hops nowhere", d);
        check.same("the first is number 0", Check.locator(d, 0, "/b", 0), 0);
    }

    private static void noFilters(Check check) {
        StageDispatcher d = Check.serving("/a");
        check.same("a request", Check.get(d, "/a"), 200);
        check.ran("none ran", d);
        check.same("the first is number 0", d.filter(0, 0, 0, 0, 0), 0);
    }

    private static void noMappers(Check check) {
        for (int t = 1; t <= 15; t++) {
            StageDispatcher d = Check.serving("/a");
            d.detail(0, NONE, 0, t);
            int due = t == 8 ? 404 : t == 9 ? 405 : t == 10 ? 406 : t == 11 ? 415 : 500;
            check.same("thrown " + t, Check.get(d, "/a"), due);
        }
    }

    private static void bufferIsEmpty(Check check) {
        check.refused("it is no path", new StageDispatcher().request(0, 0, 0));
        check.refused("it is no template of a root", new StageDispatcher().resource(true));
        StageDispatcher d = Check.serving("/aaaaaaaaaaaaaaaaaaaaaaa");
        check.same("all 24 fit", Check.get(d, "/aaaaaaaaaaaaaaaaaaaaaaa"), 200);
        StageDispatcher e = new StageDispatcher();
        for (int i = 0; i < 24; i++) {
            check.yes("character " + i, e.put('/'));
        }
        check.no("character 24", e.put('/'));
    }

    private static void nothingIsAccepted(Check check) {
        for (int type : new int[] {0, 16, 17, 35, 51}) {
            StageDispatcher d = Check.rooted("/a");
            d.method(0, 0, 0, type, 0);
            check.same("so any type is: " + type, Check.get(d, "/a"), 200);
        }
        StageDispatcher d = new StageDispatcher();
        for (int k = 0; k < 4; k++) {
            check.yes("all four fit", d.accept(17, 1));
        }
        check.no("a fifth", d.accept(17, 1));
    }

    private static void noRequestWasMade(Check check) {
        StageDispatcher d = new StageDispatcher();
        check.same("invoked", d.invoked(), NONE);
        check.same("argument", d.argument(), 0);
        check.same("allowed", d.allowed(), 0);
        check.same("produced", d.produced(), NONE);
        for (int k : new int[] {Integer.MIN_VALUE, -2, -1, 0, 1, 24, Integer.MAX_VALUE}) {
            check.same("hop " + k, d.hop(k), NONE);
            check.same("ran " + k, d.ran(k), NONE);
            check.same("the length of parameter " + k, d.parameter(k, NONE), NONE);
            check.same("a character of parameter " + k, d.parameter(k, 0), NONE);
        }
    }

    private static void nothingInCommon(Check check) {
        StageDispatcher d = Check.serving("/{d}");
        d.detail(0, 0, 0, 0);
        d.filter(0, 0, 0, 7, 503);
        d.mapper(8, 444);
        d.accept(17, 0);
        Check.get(d, "/12");
        d.accept(17, 0);
        Check.typed(d, "/a");
        StageDispatcher e = new StageDispatcher();
        check.text("an object made later", Check.told(e), Check.told(new StageDispatcher()));
        check.refused("its buffer is empty", e.request(0, 0, 0));
        check.same("it has no resource and no mapper", Check.sent(e, "/12", 7), 404);
        check.ran("it has no filter", e);
    }
}
