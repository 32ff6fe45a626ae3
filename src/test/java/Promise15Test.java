/** Promise 15: allowed. */
public final class Promise15Test {
    private static final int OPTIONS = 1 << 5;
    private static final int HEAD = 1 << 4;

    public static void main(String[] args) {
        Check check = new Check();
        sums(check);
        ofTheCandidates(check);
        toldWhateverStageThreeDoes(check);
        noStageThree(check);
        verbOfAFilter(check);
        check.end();
    }

    /** "4 too if 0 is among them, and 5": each set of verbs. */
    private static void sums(Check check) {
        for (int set = 1; set < 64; set++) {
            StageDispatcher d = Check.rooted("/a");
            for (int verb = 0; verb <= 5; verb++) {
                if ((set >> verb & 1) == 1) {
                    Check.method(d, 0, verb, "");
                }
            }
            int due = set | OPTIONS | ((set & 1) == 1 ? HEAD : 0);
            for (int verb = 0; verb <= 5; verb++) {
                Check.request(d, verb, "/a");
                check.same("the verbs " + set + ", verb " + verb, d.allowed(), due);
            }
        }
        StageDispatcher d = Check.serving("/a");
        Check.method(d, 0, 0, "");
        Check.get(d, "/a");
        check.same("a verb that two have is told once", d.allowed(), 1 | HEAD | OPTIONS);
    }

    private static void ofTheCandidates(Check check) {
        StageDispatcher d = Check.rooted("/a");
        Check.root(d, "/a");
        Check.root(d, "/b");
        Check.method(d, 0, 1, "");
        Check.method(d, 1, 2, "");
        Check.method(d, 0, 3, "/m");
        Check.method(d, 2, 0, "");
        check.same("POST", Check.request(d, 1, "/a"), 200);
        check.same("both classes, and OPTIONS", d.allowed(), 1 << 1 | 1 << 2 | OPTIONS);
        check.same("OPTIONS", Check.request(d, 5, "/a/m"), 204);
        check.same("those of the template alone", d.allowed(), 1 << 3 | OPTIONS);
    }

    private static void toldWhateverStageThreeDoes(Check check) {
        StageDispatcher d = Check.rooted("/a");
        d.method(0, 0, 17, 17, 0);
        int due = 1 | HEAD | OPTIONS;
        check.same("not allowed", Check.request(d, 1, "/a"), 405);
        check.same("told at 405", d.allowed(), due);
        check.same("OPTIONS", Check.request(d, 5, "/a"), 204);
        check.same("told at 204", d.allowed(), due);
        check.same("not consumed", Check.typed(d, "/a").request(0, 33, 0), 415);
        check.same("told at 415", d.allowed(), due);
        d.accept(17, 0);
        check.same("not acceptable", Check.get(d, "/a"), 406);
        check.same("told at 406", d.allowed(), due);
        check.same("found", Check.get(d, "/a"), 200);
        check.same("told at 200", d.allowed(), due);
        d.filter(0, 0, 1, 5, 403);
        check.same("ended behind the matching", Check.sent(d, "/a", 5), 403);
        check.same("told then", d.allowed(), due);
    }

    /** "0 when its matching did not come to stage 3" */
    private static void noStageThree(Check check) {
        StageDispatcher d = Check.serving("/a");
        check.same("no request", d.allowed(), 0);
        Check.get(d, "/a");
        check.same("no root", Check.get(d, "/b"), 404);
        check.same("no root", d.allowed(), 0);
        Check.method(d, 0, 0, "/m");
        Check.get(d, "/a");
        check.same("nothing found in stage 2", Check.get(d, "/a/x"), 404);
        check.same("nothing found in stage 2", d.allowed(), 0);
        d.resource(false);
        Check.locator(d, 0, "/l", 1);
        Check.get(d, "/a");
        check.same("nothing found behind a hop", Check.get(d, "/a/l"), 404);
        check.same("nothing found behind a hop", d.allowed(), 0);
        d.filter(0, 0, 0, 8, 503);
        Check.get(d, "/a");
        check.same("a filter ends it before", Check.sent(d, "/a", 8), 503);
        check.same("a filter ends it before", d.allowed(), 0);
    }

    /** "(what a filter of kind 0 makes of the verb does not matter)" */
    private static void verbOfAFilter(Check check) {
        for (int verb = 0; verb <= 5; verb++) {
            StageDispatcher d = Check.rooted("/a");
            Check.method(d, 0, 3, "");
            d.filter(0, 0, 0, 7, verb);
            int due = verb == 3 ? 200 : verb == 5 ? 204 : 405;
            check.same("it becomes " + verb, Check.sent(d, "/a", 7), due);
            check.same("it becomes " + verb, d.allowed(), 1 << 3 | OPTIONS);
        }
    }
}
