/** Terms: filters. */
public final class FiltersTest {
    private static final int NONE = StageDispatcher.NONE;

    public static void main(String[] args) {
        Check check = new Check();
        order(check);
        edgesOfPriority(check);
        equalPriorities(check);
        bound(check);
        kindZeroWhateverTheName(check);
        leastAndGreatestStatus(check);
        noLaterOneRuns(check);
        verbs(check);
        theLatestVerbCounts(check);
        verbsAfterMatching(check);
        xIsNotTheHeader(check);
        kindTwoOfNoUse(check);
        check.end();
    }

    private static StageDispatcher named(int name) {
        StageDispatcher d = Check.serving("/a");
        d.detail(0, NONE, name, 0);
        return d;
    }

    /** "Those of kinds 0 and 1 run by rising priority, those of kind 2 by falling priority" */
    private static void order(Check check) {
        for (int kind = 0; kind <= 2; kind++) {
            StageDispatcher d = named(0);
            int[] priorities = {5, 9, 0, 5, 99, 0, 9, 5};
            for (int priority : priorities) {
                d.filter(priority, 0, kind, 1, 0);
            }
            Check.get(d, "/a");
            if (kind == 2) {
                check.ran("falling", d, 4, 1, 6, 0, 3, 7, 2, 5);
            } else {
                check.ran("rising", d, 2, 5, 0, 3, 7, 1, 6, 4);
            }
        }
    }

    private static void edgesOfPriority(Check check) {
        int[][] orders = {{0, 99}, {99, 0}, {0, 1}, {1, 0}, {98, 99}, {99, 98}};
        for (int kind = 0; kind <= 2; kind++) {
            for (int[] pair : orders) {
                StageDispatcher d = named(0);
                d.filter(pair[0], 0, kind, 1, 0);
                d.filter(pair[1], 0, kind, 1, 0);
                Check.get(d, "/a");
                boolean firstFirst = pair[0] < pair[1] == kind < 2;
                check.text("kind " + kind + ", priorities " + pair[0] + " and " + pair[1], Check.ran(d),
                        firstFirst ? "0,1" : "1,0");
            }
        }
    }

    /** "among equal priorities those added first run first, in all kinds" */
    private static void equalPriorities(Check check) {
        for (int kind = 0; kind <= 2; kind++) {
            for (int priority : new int[] {0, 50, 99}) {
                StageDispatcher d = named(0);
                for (int f = 0; f < 8; f++) {
                    d.filter(priority, 0, kind, 1, 0);
                }
                Check.get(d, "/a");
                check.ran("kind " + kind + ", priority " + priority, d, 0, 1, 2, 3, 4, 5, 6, 7);
            }
        }
    }

    /** "A filter is bound to a method if its name is 0 or the method's name." */
    private static void bound(Check check) {
        for (int name = 0; name <= 3; name++) {
            StageDispatcher d = named(name);
            for (int other = 0; other <= 3; other++) {
                d.filter(0, other, 1, 1, 0);
            }
            for (int other = 0; other <= 3; other++) {
                d.filter(0, other, 2, 1, 0);
            }
            Check.get(d, "/a");
            if (name == 0) {
                check.ran("the name 0", d, 0, 4);
            } else {
                check.ran("the name " + name, d, 0, name, 4, 4 + name);
            }
        }
        StageDispatcher d = named(1);
        d.filter(0, 2, 1, 5, 403);
        check.same("one that is not bound does not end it", Check.sent(d, "/a", 5), 200);
    }

    /** "1. The filters of kind 0 run.": all of them, for no method is known yet. */
    private static void kindZeroWhateverTheName(Check check) {
        StageDispatcher d = named(2);
        for (int other = 0; other <= 3; other++) {
            d.filter(0, other, 0, 1, 0);
        }
        Check.get(d, "/a");
        check.ran("a method with the name 2", d, 0, 1, 2, 3);
        Check.get(d, "/b");
        check.ran("no method", d, 0, 1, 2, 3);
        d.filter(0, 3, 0, 5, 503);
        check.same("one with another name ends it, too", Check.sent(d, "/a", 5), 503);
    }

    /** "if its status is 100 or more, the request has that status at once" */
    private static void leastAndGreatestStatus(Check check) {
        for (int kind = 0; kind <= 1; kind++) {
            for (int status : new int[] {100, 101, 200, 204, 404, 598, 599}) {
                StageDispatcher d = named(0);
                d.filter(0, 0, kind, 3, status);
                d.filter(0, 0, kind, 3, 333);
                check.same("kind " + kind + ", status " + status, Check.sent(d, "/a", 3), status);
                check.ran("no later one", d, 0);
                check.same("not invoked", d.invoked(), NONE);
                check.same("matched", d.produced(), kind == 0 ? NONE : 255);
                check.same("another header", Check.sent(d, "/a", 4), 200);
            }
        }
    }

    /** "and steps 1 to 5 end (no later filter of kinds 0 and 1 runs; step 6 is done)" */
    private static void noLaterOneRuns(Check check) {
        StageDispatcher d = named(1);
        d.filter(0, 0, 0, 3, 501);
        d.filter(0, 0, 0, 3, 502);
        d.filter(0, 0, 1, 4, 503);
        d.filter(1, 0, 1, 4, 504);
        d.filter(0, 0, 2, 3, 505);
        d.filter(0, 1, 2, 4, 506);
        check.same("ended before the matching", Check.sent(d, "/a", 3), 501);
        check.ran("no later one, and at the end those with the name 0", d, 0, 4);
        check.same("ended behind the matching", Check.sent(d, "/a", 4), 503);
        check.ran("no later one, and at the end those bound to the method", d, 0, 1, 2, 4, 5);
        check.same("not ended", Check.sent(d, "/a", 5), 200);
        check.ran("all", d, 0, 1, 2, 3, 4, 5);
        check.same("ended before nothing is found", Check.sent(d, "/b", 3), 501);
        check.same("ended before a wrong verb", Check.typed(d, "/a").request(1, 0, 3), 501);
        check.same("a wrong verb before it would be ended", Check.typed(d, "/a").request(1, 0, 4), 405);
        StageDispatcher e = named(0);
        e.detail(0, NONE, 0, 5);
        e.filter(0, 0, 1, 4, 200);
        check.same("ended before the method throws", Check.sent(e, "/a", 4), 200);
        check.same("not invoked", e.invoked(), NONE);
        check.same("it throws", Check.sent(e, "/a", 5), 500);
    }

    /** "if it is below 100, the verb of the request becomes the status (which is 0 .. 5 then" */
    private static void verbs(Check check) {
        for (int verb = 0; verb <= 5; verb++) {
            for (int asked = 0; asked <= 5; asked++) {
                StageDispatcher d = Check.rooted("/a");
                for (int m = 0; m <= 5; m++) {
                    Check.method(d, 0, m, "");
                }
                d.filter(0, 0, 0, 3, verb);
                check.same("verb " + asked, Check.typed(d, "/a").request(asked, 0, 3), 200);
                check.same("verb " + asked + " becomes " + verb, d.invoked(), verb);
                Check.typed(d, "/a").request(asked, 0, 2);
                check.same("verb " + asked + " as ever with another header", d.invoked(), asked);
            }
        }
        StageDispatcher d = Check.serving("/a");
        d.filter(0, 0, 0, 3, 4);
        d.filter(0, 0, 0, 4, 5);
        check.same("HEAD, by GET", Check.typed(d, "/a").request(1, 0, 3), 200);
        check.same("OPTIONS, by none", Check.typed(d, "/a").request(1, 0, 4), 204);
    }

    private static void theLatestVerbCounts(Check check) {
        StageDispatcher d = Check.rooted("/a");
        Check.method(d, 0, 1, "");
        d.filter(1, 0, 0, 3, 1);
        check.same("POST instead", Check.sent(d, "/a", 3), 200);
        d.filter(2, 0, 0, 3, 5);
        check.same("the later one counts", Check.sent(d, "/a", 3), 204);
        d.filter(3, 0, 0, 3, 0);
        check.same("the latest one counts", Check.typed(d, "/a").request(1, 0, 3), 405);
        d.filter(0, 0, 0, 3, 1);
        check.same("by priority, not by number", Check.typed(d, "/a").request(1, 0, 3), 405);
        check.ran("all of them ran", d, 3, 0, 1, 2);
        d.filter(4, 0, 0, 3, 555);
        check.same("and a status ends it all the same", Check.sent(d, "/a", 3), 555);
        check.ran("all of them ran", d, 3, 0, 1, 2, 4);
    }

    /** "after matching this changes nothing more" */
    private static void verbsAfterMatching(Check check) {
        StageDispatcher d = named(0);
        for (int verb = 0; verb <= 5; verb++) {
            d.filter(0, 0, 1, 3, verb);
        }
        check.same("behind the matching it changes nothing", Check.sent(d, "/a", 3), 200);
        check.same("invoked", d.invoked(), 0);
        check.same("allowed", d.allowed(), 1 | 1 << 4 | 1 << 5);
        check.ran("they ran", d, 0, 1, 2, 3, 4, 5);
    }

    private static void xIsNotTheHeader(Check check) {
        StageDispatcher d = named(0);
        d.filter(0, 0, 0, 3, 503);
        d.filter(0, 0, 1, 3, 403);
        d.filter(0, 0, 0, 3, 1);
        for (int header : new int[] {2, 4, -3, Integer.MIN_VALUE + 3, 3 + 65536, 3 + 256}) {
            check.same("the header " + header, Check.sent(d, "/a", header), 200);
            check.ran("they ran", d, 0, 2, 1);
        }
    }

    /** "(x and status of kind 2 are of no use)" */
    private static void kindTwoOfNoUse(Check check) {
        for (int status : new int[] {0, 1, 5, 100, 599}) {
            StageDispatcher d = named(0);
            d.filter(9, 0, 2, 3, status);
            d.filter(0, 0, 2, 3, status);
            check.same("a request", Check.sent(d, "/a", 3), 200);
            check.ran("both ran", d, 0, 1);
            check.same("invoked", d.invoked(), 0);
            check.same("no root", Check.sent(d, "/b", 3), 404);
            check.ran("both ran", d, 0, 1);
        }
    }
}
