/** Terms: what is thrown, and the status that comes of it. */
public final class ThrownTest {
    private static final int NONE = StageDispatcher.NONE;

    public static void main(String[] args) {
        Check check = new Check();
        withoutMappers(check);
        oneMapper(check);
        theNearest(check);
        allMappers(check);
        byTheMatching(check);
        byTheConversion(check);
        endsTheSteps(check);
        statusesAreNotThrown(check);
        check.end();
    }

    private static StageDispatcher throwing(int t) {
        StageDispatcher d = Check.serving("/a");
        d.detail(0, NONE, 0, t);
        return d;
    }

    private static int unmapped(int t) {
        return t == 8 ? 404 : t == 9 ? 405 : t == 10 ? 406 : t == 11 ? 415 : 500;
    }

    /** "if there is none, it is 404 for 8, 405 for 9, 406 for 10, 415 for 11, and 500 for all others" */
    private static void withoutMappers(Check check) {
        for (int t = 1; t <= 15; t++) {
            check.same("thrown " + t, Check.get(throwing(t), "/a"), unmapped(t));
        }
        check.same("nothing thrown", Check.get(throwing(0), "/a"), 200);
    }

    /** "t, or t / 2, or t / 2 / 2 and so on down to 1 (rounded down)": each t with each mapper */
    private static void oneMapper(Check check) {
        int[][] chains = {{}, {1}, {2, 1}, {3, 1}, {4, 2, 1}, {5, 2, 1}, {6, 3, 1}, {7, 3, 1}, {8, 4, 2, 1}, {9, 4, 2, 1},
            {10, 5, 2, 1}, {11, 5, 2, 1}, {12, 6, 3, 1}, {13, 6, 3, 1}, {14, 7, 3, 1}, {15, 7, 3, 1}};
        for (int t = 1; t <= 15; t++) {
            for (int mapped = 1; mapped <= 15; mapped++) {
                StageDispatcher d = throwing(t);
                d.mapper(mapped, 222);
                boolean reached = false;
                for (int link : chains[t]) {
                    reached |= link == mapped;
                }
                check.same(t + " with a mapper for " + mapped, Check.get(d, "/a"), reached ? 222 : unmapped(t));
                check.same("invoked", d.invoked(), 0);
            }
        }
    }

    /** "the first of these for which there is a mapper" */
    private static void theNearest(Check check) {
        int[][] chains = {{1, 3, 6, 13}, {1, 2, 4, 8}, {1, 3, 7, 15}, {1, 2, 5, 10}};
        for (int[] chain : chains) {
            StageDispatcher d = throwing(chain[3]);
            for (int i = 0; i < chain.length; i++) {
                d.mapper(chain[i], 300 + i);
                check.same("the nearest to " + chain[3], Check.get(d, "/a"), 300 + i);
            }
            for (int i = chain.length - 1; i > 0; i--) {
                d.mapper(chain[i], 0);
                check.same("the nearest that is left to " + chain[3], Check.get(d, "/a"), 299 + i);
            }
        }
    }

    private static void allMappers(Check check) {
        for (int t = 1; t <= 15; t++) {
            StageDispatcher d = throwing(t);
            for (int mapped = 1; mapped <= 15; mapped++) {
                d.mapper(mapped, mapped == t ? 599 : 100);
            }
            check.same("its own mapper for " + t, Check.get(d, "/a"), 599);
        }
    }

    /** What the matching throws: 8, 9, 10 and 11, each by a mapper of its own. */
    private static void byTheMatching(Check check) {
        StageDispatcher d = Check.rooted("/a");
        d.method(0, 0, 17, 17, 0);
        for (int t = 8; t <= 11; t++) {
            d.mapper(t, 200 + t);
        }
        check.same("8 in stage 1", Check.get(d, "/b"), 208);
        d.method(0, 0, 17, 17, 0);
        Check.method(d, 0, 0, "/m");
        check.same("8 in stage 2", Check.get(d, "/a/b"), 208);
        check.same("9", Check.request(d, 1, "/a"), 209);
        d.accept(18, 1);
        check.same("10", Check.get(d, "/a"), 210);
        check.same("11", Check.typed(d, "/a").request(0, 18, 0), 211);
        d.method(0, 0, 17, 32, 1000);
        d.accept(32, 1000);
        check.same("10 for a type too open", Check.get(d, "/a"), 210);
    }

    private static void byTheConversion(Check check) {
        StageDispatcher d = Check.serving("/{}");
        d.detail(0, 0, 0, 9);
        d.mapper(8, 208);
        d.mapper(9, 209);
        check.same("not converted", Check.get(d, "/x"), 208);
        check.same("converted, and thrown by the method", Check.get(d, "/1"), 209);
    }

    /** "THROWN t ends the steps 2 to 5 at once" */
    private static void endsTheSteps(Check check) {
        StageDispatcher d = Check.rooted("/{}");
        d.method(0, 0, 17, 17, 0);
        d.detail(0, 0, 0, 0);
        d.filter(0, 0, 1, 5, 299);
        d.filter(0, 0, 2, 5, 298);
        check.same("thrown 8 by stage 1", Check.sent(d, "/", 5), 404);
        check.ran("no step 3, but step 6", d, 1);
        check.same("thrown 9", Check.typed(d, "/1").request(1, 0, 5), 405);
        check.ran("no step 3, but step 6", d, 1);
        check.same("thrown 11", Check.typed(d, "/1").request(0, 18, 5), 415);
        check.ran("no step 3, but step 6", d, 1);
        d.accept(18, 1);
        check.same("thrown 10", Check.sent(d, "/1", 5), 406);
        check.ran("no step 3, but step 6", d, 1);
        check.same("thrown 8 by step 4", Check.sent(d, "/x", 4), 404);
        check.ran("step 3 was done, and step 6", d, 0, 1);
        check.same("no step 5", d.invoked(), NONE);
    }

    /** The status of a filter and 204 come of no throw: no mapper changes them. */
    private static void statusesAreNotThrown(Check check) {
        StageDispatcher d = Check.serving("/a");
        for (int t = 1; t <= 15; t++) {
            d.mapper(t, 111);
        }
        d.filter(0, 0, 0, 5, 404);
        d.filter(0, 0, 1, 6, 405);
        check.same("200", Check.get(d, "/a"), 200);
        check.same("204", Check.request(d, 5, "/a"), 204);
        check.same("a filter of kind 0", Check.sent(d, "/a", 5), 404);
        check.same("a filter of kind 1", Check.sent(d, "/a", 6), 405);
        check.same("thrown 8", Check.get(d, "/b"), 111);
    }
}
