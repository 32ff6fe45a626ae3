import java.util.ArrayList;
import java.util.List;

/**
 * Terms: "A call that is refused changes nothing but the buffer, which the calls that use it empty
 * in any case." Each refused call is made on an object in some state; then it is to answer all
 * that is asked as a second object does that was brought to the same state without that call.
 */
public final class RefusalsTest {
    private static final int NONE = StageDispatcher.NONE;

    /** A call; a boolean answer false counts as NONE. */
    private interface Call {
        int on(StageDispatcher d);
    }

    private record Refused(String what, boolean usesTheBuffer, Call call) {
    }

    /** A way to bring a new object to a state. */
    private interface Start {
        StageDispatcher make();
    }

    public static void main(String[] args) {
        Check check = new Check();
        List<Refused> wrong = wrongCalls();
        for (Refused refused : wrong) {
            changesNothing(check, "new: ", refused, StageDispatcher::new);
            changesNothing(check, "half full: ", refused, RefusalsTest::halfFull);
            changesNothing(check, "full: ", refused, RefusalsTest::full);
        }
        for (Refused refused : tooMany()) {
            changesNothing(check, "full: ", refused, RefusalsTest::full);
        }
        for (Refused refused : ofNone()) {
            changesNothing(check, "new: ", refused, StageDispatcher::new);
        }
        // Those that use the buffer are refused for a good text, too: here a bad one is typed.
        for (String text : new String[] {"/", "a", "/{", "/a/", "}", "/{}{}{}{}{}", "//", "/{x}"}) {
            for (Refused refused : badTexts(text)) {
                changesNothing(check, "half full: ", refused, RefusalsTest::halfFull);
                changesNothing(check, "full: ", refused, RefusalsTest::full);
            }
        }
        System.out.println(wrong.size() + " wrong calls, each in three states");
        check.end();
    }

    private static int asNumber(boolean answer) {
        return answer ? 1 : NONE;
    }

    private static void changesNothing(Check check, String state, Refused refused, Start start) {
        String what = state + refused.what;
        StageDispatcher d = start.make();
        check.same(what, refused.call.on(d), NONE);
        check.text(what + ": what is told of the latest request", Check.told(d), Check.told(start.make()));
        check.text(what + ": the answers behind it", answers(d), answers(start.make()));
        if (refused.usesTheBuffer) {
            // The call typed a text: nothing of it is left.
            StageDispatcher e = start.make();
            refused.call.on(e);
            check.refused(what + ": the buffer is empty", e.request(0, 0, 0));
            StageDispatcher f = start.make();
            refused.call.on(f);
            for (int i = 0; i < 24; i++) {
                check.yes(what + ": there is room for all 24", f.put('a'));
            }
        } else {
            StageDispatcher e = start.make();
            Check.typed(e, "/1/y");
            refused.call.on(e);
            StageDispatcher f = start.make();
            Check.typed(f, "/1/y");
            check.same(what + ": the buffer is as it was", e.request(0, 0, 0), f.request(0, 0, 0));
            check.text(what + ": the buffer is as it was", Check.told(e), Check.told(f));
        }
    }

    private static StageDispatcher halfFull() {
        StageDispatcher d = Check.rooted("/{d}");
        d.resource(false);
        Check.root(d, "/{}");
        Check.typed(d, "").method(0, 0, 0, 17, 500);
        Check.typed(d, "/{}").method(0, 0, 16, 0, 0);
        Check.typed(d, "").method(1, 1, 17, 0, 10);
        Check.typed(d, "").method(2, 0, 0, 32, 0);
        d.detail(0, 0, 1, 0);
        d.detail(1, 1, 2, 0);
        d.detail(2, NONE, 3, 9);
        Check.locator(d, 0, "/l", 1);
        Check.locator(d, 1, "/{r}", 0);
        d.filter(5, 0, 0, 7, 1);
        d.filter(5, 1, 1, 8, 403);
        d.filter(5, 1, 2, 0, 0);
        d.filter(9, 0, 2, 0, 0);
        d.mapper(4, 444);
        d.mapper(9, 449);
        d.accept(17, 300);
        Check.get(d, "/12");
        d.accept(0, 5);
        d.accept(18, 5);
        return d;
    }

    private static StageDispatcher full() {
        StageDispatcher d = halfFull();
        d.resource(false);
        Check.root(d, "/{d}");
        Check.root(d, "/x{}");
        for (int m = 4; m < 12; m++) {
            Check.typed(d, m % 2 == 0 ? "" : "/{}").method(m % 6, m % 6, 0, 16 + m % 3, m);
        }
        for (int l = 2; l < 8; l++) {
            Check.locator(d, l % 6, "/m" + l, (l + 1) % 6);
        }
        for (int f = 4; f < 8; f++) {
            d.filter(f, f % 4, f % 3, f, f % 2 == 0 ? 2 : 550 + f);
        }
        for (int t = 1; t <= 15; t++) {
            d.mapper(t, 400 + t);
        }
        d.accept(16, 6);
        d.accept(32, 7);
        return d;
    }

    /** Answers that show all of the state, and change it: how much room is left comes last. */
    private static String answers(StageDispatcher d) {
        StringBuilder all = new StringBuilder();
        String[] paths = {"/12", "/12", "/1/y", "/1/l/z", "/ab", "/x1", "/"};
        for (int i = 0; i < paths.length; i++) {
            all.append(Check.typed(d, paths[i]).request(i == 3 ? 1 : 0, i == 4 ? 17 : 0, i)).append(' ');
            all.append(Check.told(d)).append("; ");
        }
        for (int header = 7; header <= 8; header++) {
            all.append(Check.sent(d, "/12", header)).append(' ').append(Check.ran(d)).append("; ");
        }
        int taken = 0;
        while (taken < 5 && d.accept(17, 1)) {
            taken++;
        }
        all.append(taken).append(" accepted, next: ");
        all.append(Check.root(d, "/a")).append(' ');
        all.append(d.method(0, 0, 0, 0, 0)).append(' ');
        all.append(Check.locator(d, 0, "/a", 0)).append(' ');
        all.append(d.filter(0, 0, 0, 0, 0));
        return all.toString();
    }

    private static List<Refused> wrongCalls() {
        List<Refused> all = new ArrayList<>();
        for (int far : new int[] {-2, -1, 6, 12, 16, 100, 1001, Integer.MIN_VALUE, Integer.MAX_VALUE}) {
            all.add(using("/q", "method of resource " + far, d -> d.method(far, 0, 0, 0, 0)));
            all.add(using("/q", "locator of resource " + far, d -> d.locator(far, 0)));
            all.add(using("/q", "locator to " + far, d -> d.locator(0, far)));
            all.add(using("/q", "method with verb " + far, d -> d.method(0, far, 0, 0, 0)));
            all.add(using("/q", "request with verb " + far, d -> d.request(far, 0, 0)));
            all.add(using("/q", "request with content " + far, d -> d.request(0, far, 0)));
        }
        for (int far : new int[] {-2, -1, 1, 3, 15, 20, 31, 52, 64, 255, Integer.MIN_VALUE, Integer.MAX_VALUE}) {
            all.add(using("/q", "method consuming " + far, d -> d.method(0, 0, far, 0, 0)));
            all.add(using("/q", "method producing " + far, d -> d.method(0, 0, 0, far, 0)));
            all.add(leaving("accept " + far, d -> asNumber(d.accept(far, 1))));
        }
        for (int far : new int[] {-2, -1, 1001, Integer.MIN_VALUE, Integer.MAX_VALUE}) {
            all.add(using("/q", "method with quality " + far, d -> d.method(0, 0, 0, 0, far)));
            all.add(leaving("accept with q " + far, d -> asNumber(d.accept(17, far))));
        }
        for (int far : new int[] {-2, 10, 16, Integer.MIN_VALUE, Integer.MAX_VALUE}) {
            all.add(leaving("detail converting " + far, d -> asNumber(d.detail(0, far, 2, 5))));
        }
        for (int far : new int[] {-2, -1, 16, 100, Integer.MIN_VALUE, Integer.MAX_VALUE}) {
            all.add(leaving("detail with name " + far, d -> asNumber(d.detail(0, 1, far, 5))));
            all.add(leaving("detail throwing " + far, d -> asNumber(d.detail(0, 1, 2, far))));
            all.add(leaving("detail of method " + far, d -> asNumber(d.detail(far, 1, 2, 5))));
            all.add(leaving("mapper for " + far, d -> asNumber(d.mapper(far, 222))));
            all.add(leaving("no mapper for " + far, d -> asNumber(d.mapper(far, 0))));
            all.add(leaving("filter with name " + far, d -> d.filter(0, far, 0, 0, 222)));
            all.add(leaving("filter of kind " + far, d -> d.filter(0, 0, far, 0, 222)));
        }
        all.add(leaving("mapper for 0", d -> asNumber(d.mapper(0, 222))));
        for (int far : new int[] {-1, 1, 5, 6, 99, 600, Integer.MIN_VALUE, Integer.MAX_VALUE}) {
            all.add(leaving("mapper with status " + far, d -> asNumber(d.mapper(8, far))));
        }
        for (int far : new int[] {-1, 6, 99, 600, Integer.MIN_VALUE, Integer.MAX_VALUE}) {
            all.add(leaving("filter with status " + far, d -> d.filter(0, 0, 0, 0, far)));
        }
        for (int far : new int[] {-1, 100, Integer.MIN_VALUE, Integer.MAX_VALUE}) {
            all.add(leaving("filter with priority " + far, d -> d.filter(far, 0, 0, 0, 222)));
        }
        all.add(using("", "resource with nothing", d -> d.resource(true)));
        all.add(using("", "locator with nothing", d -> d.locator(0, 0)));
        all.add(using("", "request with nothing", d -> d.request(0, 0, 0)));
        return all;
    }

    /** Refused for what was typed. */
    private static List<Refused> badTexts(String text) {
        List<Refused> all = new ArrayList<>();
        all.add(using(text, "resource with " + text, d -> d.resource(true)));
        all.add(using(text, "method with " + text, d -> d.method(0, 0, 0, 0, 0)));
        all.add(using(text, "locator with " + text, d -> d.locator(0, 0)));
        if (!text.matches("/[^{}]*")) {
            all.add(using(text, "request with " + text, d -> d.request(0, 0, 0)));
        }
        return all;
    }

    /** Good calls that are refused by an object that is full. */
    private static List<Refused> tooMany() {
        List<Refused> all = new ArrayList<>();
        all.add(using("/q", "a seventh root", d -> d.resource(true)));
        all.add(using("/q", "a seventh resource", d -> d.resource(false)));
        all.add(using("", "a seventh resource, nothing typed", d -> d.resource(false)));
        all.add(using("/q", "a thirteenth method", d -> d.method(0, 0, 0, 0, 0)));
        all.add(using("", "a thirteenth method without a template", d -> d.method(0, 0, 0, 0, 0)));
        all.add(using("/q", "a ninth locator", d -> d.locator(0, 0)));
        for (int kind = 0; kind <= 2; kind++) {
            int of = kind;
            all.add(leaving("a ninth filter of kind " + kind, d -> d.filter(0, 0, of, 0, 222)));
        }
        all.add(leaving("a fifth accepted type", d -> asNumber(d.accept(17, 1000))));
        all.add(leaving("a fifth accepted type with q 0", d -> asNumber(d.accept(17, 0))));
        all.add(leaving("details of a thirteenth method", d -> asNumber(d.detail(12, 0, 0, 0))));
        return all;
    }

    /** Good calls that are refused by a new object. */
    private static List<Refused> ofNone() {
        List<Refused> all = new ArrayList<>();
        all.add(using("/q", "a method of no resource", d -> d.method(0, 0, 0, 0, 0)));
        all.add(using("", "a method of no resource, nothing typed", d -> d.method(0, 0, 0, 0, 0)));
        all.add(using("/q", "a locator of no resource", d -> d.locator(0, 0)));
        all.add(leaving("details of no method", d -> asNumber(d.detail(0, 0, 0, 0))));
        return all;
    }

    private static Refused using(String text, String what, Call call) {
        return new Refused(what, true, d -> call.on(Check.typed(d, text)));
    }

    private static Refused leaving(String what, Call call) {
        return new Refused(what, false, call);
    }
}
