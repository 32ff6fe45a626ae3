/** Terms: how a request goes on, filters, and what is thrown. */
public final class FlowTest {
    private static final int NONE = StageDispatcher.NONE;

    public static void main(String[] args) {
        Check check = new Check();
        order(check);
        bound(check);
        endedEarly(check);
        verbChanged(check);
        filtersAtTheEnd(check);
        defaults(check);
        check.end();
    }

    private static StageDispatcher withMethod(int verb, int name) {
        StageDispatcher d = new StageDispatcher();
        Check.root(d, "/a");
        Check.method(d, 0, verb, "");
        d.detail(0, NONE, name, 0);
        return d;
    }

    private static void order(Check check) {
        for (int kind = 0; kind <= 2; kind++) {
            StageDispatcher d = withMethod(0, 0);
            int[] priorities = {5, 9, 0, 5, 99, 0, 9, 5};
            for (int priority : priorities) {
                d.filter(priority, 0, kind, 1, 0);
            }
            Check.get(d, "/a");
            if (kind == 2) {
                check.ran("falling", d, 4, 1, 6, 0, 3, 7, 2, 5);
            } else {
                check.ran("rising", d, 2, 5, 0, 3, 7, 1, 6, 4);
            }
        }
    }

    private static void bound(Check check) {
        for (int name = 0; name <= 3; name++) {
            StageDispatcher d = withMethod(0, name);
            for (int other = 0; other <= 3; other++) {
                d.filter(0, other, 1, 1, 0);
            }
            for (int other = 0; other <= 3; other++) {
                d.filter(0, other, 2, 1, 0);
            }
            Check.get(d, "/a");
            if (name == 0) {
                check.ran("the name 0", d, 0, 4);
            } else {
                check.ran("the name " + name, d, 0, name, 4, 4 + name);
            }
        }
        StageDispatcher d = withMethod(0, 2);
        for (int other = 0; other <= 3; other++) {
            d.filter(0, other, 0, 1, 0);
        }
        Check.get(d, "/a");
        check.ran("those of kind 0 run whatever their name", d, 0, 1, 2, 3);
    }

    private static void endedEarly(Check check) {
        StageDispatcher d = withMethod(0, 1);
        d.filter(0, 0, 0, 3, 501);
        d.filter(1, 0, 0, 3, 502);
        d.filter(0, 0, 1, 4, 503);
        d.filter(1, 0, 1, 4, 504);
        d.filter(0, 0, 2, 3, 505);
        d.filter(0, 1, 2, 4, 506);
        check.same("ended before the matching", Check.typed(d, "/a").request(0, 0, 3), 501);
        check.ran("no later one, and at the end those with the name 0", d, 0, 4);
        check.same("ended behind the matching", Check.typed(d, "/a").request(0, 0, 4), 503);
        check.ran("no later one, and at the end those bound to the method", d, 0, 1, 2, 4, 5);
        check.same("not ended", Check.typed(d, "/a").request(0, 0, 5), 200);
        check.ran("all", d, 0, 1, 2, 3, 4, 5);
        check.same("a status is not mapped", Check.typed(d, "/b").request(0, 0, 3), 501);
        d.mapper(1, 111);
        check.same("even with a mapper", Check.typed(d, "/b").request(0, 0, 3), 501);
        check.same("what is thrown is", Check.typed(d, "/b").request(0, 0, 4), 111);

        for (int kind = 0; kind <= 1; kind++) {
            StageDispatcher least = withMethod(0, 0);
            least.filter(0, 0, kind, 3, 100);
            least.filter(1, 0, kind, 3, 599);
            check.same("the least status ends it, kind " + kind, Check.typed(least, "/a").request(0, 0, 3), 100);
            check.same("not invoked", least.invoked(), NONE);
            check.ran("no later one", least, 0);
        }

        StageDispatcher e = withMethod(0, 0);
        e.detail(0, NONE, 0, 5);
        e.filter(0, 0, 1, 4, 200);
        check.same("ended before the method throws", Check.typed(e, "/a").request(0, 0, 4), 200);
        check.same("not invoked", e.invoked(), NONE);
        check.same("it throws", Check.typed(e, "/a").request(0, 0, 5), 500);
    }

    private static void verbChanged(Check check) {
        StageDispatcher d = withMethod(1, 0);
        d.filter(0, 0, 0, 3, 1);
        check.same("POST instead", Check.typed(d, "/a").request(0, 0, 3), 200);
        check.same("GET as ever", Check.typed(d, "/a").request(0, 0, 4), 405);
        d.filter(1, 0, 0, 3, 5);
        check.same("the later one counts", Check.typed(d, "/a").request(0, 0, 3), 204);
        d.filter(2, 0, 0, 3, 0);
        check.same("the latest one counts", Check.typed(d, "/a").request(1, 0, 3), 405);
        check.ran("all of them ran", d, 0, 1, 2);

        StageDispatcher e = withMethod(0, 0);
        for (int verb = 0; verb <= 5; verb++) {
            e.filter(0, 0, 1, 3, verb);
        }
        check.same("behind the matching it changes nothing", Check.typed(e, "/a").request(0, 0, 3), 200);
        check.same("invoked", e.invoked(), 0);
        check.ran("they ran", e, 0, 1, 2, 3, 4, 5);
    }

    private static void filtersAtTheEnd(Check check) {
        StageDispatcher d = withMethod(0, 1);
        d.method(0, 3, 17, 17, 0);
        d.detail(1, NONE, 1, 0);
        d.filter(0, 1, 2, 0, 500);
        d.filter(0, 0, 2, 0, 0);
        d.filter(0, 1, 1, 1, 0);
        check.same("their x and status are of no use", Check.get(d, "/a"), 200);
        check.ran("200", d, 2, 0, 1);
        check.same("204", Check.request(d, 5, "/a"), 204);
        check.ran("204 is no such end", d, 1);
        check.same("404", Check.request(d, 0, "/b"), 404);
        check.ran("404", d, 1);
        check.same("405", Check.request(d, 1, "/a"), 405);
        check.ran("405", d, 1);
        check.same("415", Check.typed(d, "/a").request(3, 18, 0), 415);
        check.ran("415", d, 1);
        d.accept(18, 1);
        check.same("406", Check.typed(d, "/a").request(3, 17, 0), 406);
        check.ran("406", d, 1);
        d.detail(0, NONE, 1, 8);
        check.same("thrown by the method", Check.get(d, "/a"), 404);
        check.ran("thrown by the method", d, 2, 0, 1);
        d.filter(0, 0, 0, 9, 499);
        check.same("ended before the matching", Check.typed(d, "/a").request(0, 0, 9), 499);
        check.ran("ended before the matching", d, 3, 1);
    }

    private static void defaults(Check check) {
        for (int t = 1; t <= 15; t++) {
            StageDispatcher d = withMethod(0, 0);
            d.detail(0, NONE, 0, t);
            int due = t == 8 ? 404 : t == 9 ? 405 : t == 10 ? 406 : t == 11 ? 415 : 500;
            check.same("thrown " + t, Check.get(d, "/a"), due);
        }
        // What the matching throws: 8, 9, 10 and 11, each by a mapper of its own.
        StageDispatcher d = new StageDispatcher();
        Check.root(d, "/a");
        d.method(0, 0, 17, 17, 0);
        for (int t = 8; t <= 11; t++) {
            d.mapper(t, 200 + t);
        }
        check.same("8", Check.get(d, "/b"), 208);
        check.same("8 in stage 2", Check.get(d, "/a/b"), 208);
        check.same("9", Check.request(d, 1, "/a"), 209);
        d.accept(18, 1);
        check.same("10", Check.get(d, "/a"), 210);
        check.same("11", Check.typed(d, "/a").request(0, 18, 0), 211);
        d.method(0, 0, 17, 32, 1000);
        d.accept(32, 1000);
        check.same("10 for a type too open", Check.get(d, "/a"), 210);
    }
}
