/** Promise 9: accept. */
public final class Promise09Test {
    private static final int NONE = StageDispatcher.NONE;

    public static void main(String[] args) {
        Check check = new Check();
        types(check);
        qs(check);
        toldAlready(check);
        byTheNextRequest(check);
        notByOneThatIsRefused(check);
        four(check);
        refusedOnesAreNotAccepted(check);
        bufferIsLeftAlone(check);
        check.end();
    }

    /** A method that produces the type 17 alone. */
    private static StageDispatcher producing() {
        StageDispatcher d = Check.rooted("/a");
        d.method(0, 0, 0, 17, 0);
        return d;
    }

    /** "Refused (false) when it is no type" */
    private static void types(Check check) {
        for (int type = -70; type <= 300; type++) {
            boolean due = type == 0 || type >= 16 && type < 64 && type % 16 <= 3;
            check.same("type " + type, new StageDispatcher().accept(type, 1) ? 1 : 0, due ? 1 : 0);
        }
        for (int far : Check.FAR) {
            check.no("type " + far, new StageDispatcher().accept(far, 1));
        }
    }

    /** "with q (0 .. 1000)", refused when "q is not as said" */
    private static void qs(Check check) {
        StageDispatcher d = producing();
        check.no("q -1", d.accept(17, -1));
        check.no("q 1001", d.accept(17, 1001));
        for (int far : Check.FAR) {
            check.no("q " + far, d.accept(17, far));
        }
        check.yes("q 0", d.accept(17, 0));
        check.same("a q of 0 is no good", Check.get(d, "/a"), 406);
        check.yes("q 1", d.accept(17, 1));
        check.same("a q of 1 is", Check.get(d, "/a"), 200);
        check.yes("q 1000", d.accept(17, 1000));
        check.same("a q of 1000 is", Check.get(d, "/a"), 200);
        StageDispatcher e = Check.serving("/a");
        e.accept(18, 999);
        e.accept(17, 1000);
        Check.get(e, "/a");
        check.same("1000 is more than 999", e.produced(), 17);
        e.accept(18, 0);
        e.accept(17, 1);
        Check.get(e, "/a");
        check.same("1 is more than 0", e.produced(), 17);
    }

    /** "Another type (also one told already)" */
    private static void toldAlready(Check check) {
        StageDispatcher d = producing();
        for (int k = 0; k < 4; k++) {
            check.yes("the same again: " + k, d.accept(17, k));
        }
        check.no("a fifth time", d.accept(17, 1));
        check.same("a q of 0 does not undo another one", Check.get(d, "/a"), 200);
        check.yes("with a q", d.accept(17, 5));
        check.yes("with a q of 0 behind it", d.accept(17, 0));
        check.same("it is accepted by the first", Check.get(d, "/a"), 200);
    }

    /** "is accepted by the next request": whatever becomes of it, and by no later one */
    private static void byTheNextRequest(Check check) {
        StageDispatcher d = producing();
        d.filter(0, 0, 0, 9, 503);
        d.filter(0, 0, 1, 8, 502);
        d.accept(33, 1);
        check.same("the next request", Check.get(d, "/a"), 406);
        check.same("a later one", Check.get(d, "/a"), 200);
        d.accept(33, 1);
        check.same("one that a filter ends before the matching", Check.sent(d, "/a", 9), 503);
        check.same("a later one", Check.get(d, "/a"), 200);
        d.accept(17, 1);
        check.same("one that a filter ends behind the matching", Check.sent(d, "/a", 8), 502);
        d.accept(33, 1);
        check.same("one without a resource", Check.get(d, "/b"), 404);
        check.same("a later one", Check.get(d, "/a"), 200);
        d.accept(33, 1);
        check.same("one with another verb", Check.request(d, 1, "/a"), 405);
        check.same("a later one", Check.get(d, "/a"), 200);
        d.accept(33, 1);
        check.same("one that ends with 204", Check.request(d, 5, "/a"), 204);
        check.same("a later one", Check.get(d, "/a"), 200);
    }

    /** "by the next request that is not refused" */
    private static void notByOneThatIsRefused(Check check) {
        StageDispatcher d = producing();
        check.yes("accepted", d.accept(33, 1000));
        check.refused("an empty buffer", d.request(0, 0, 0));
        check.refused("a path with {", Check.get(d, "/a{"));
        check.refused("verb 6", Check.request(d, 6, "/a"));
        check.refused("content 16", Check.typed(d, "/a").request(0, 16, 0));
        check.yes("accepted behind them", d.accept(34, 1));
        check.yes("there are two of four", d.accept(34, 1) && d.accept(34, 1));
        check.no("now there are four", d.accept(17, 1));
        check.same("all of them are accepted now", Check.get(d, "/a"), 406);
        check.same("and no more", Check.get(d, "/a"), 200);
    }

    /** "or 4 are accepted" */
    private static void four(Check check) {
        StageDispatcher d = producing();
        for (int k = 0; k < 4; k++) {
            check.yes("accepted " + k, d.accept(33, 0));
        }
        check.no("a fifth", d.accept(17, 1000));
        check.no("a fifth with a q of 0", d.accept(17, 0));
        check.same("the fifth is not accepted", Check.get(d, "/a"), 406);
        for (int k = 0; k < 4; k++) {
            check.yes("there is room again: " + k, d.accept(k == 3 ? 17 : 35, 1));
        }
        check.no("but for four alone", d.accept(35, 1));
        check.same("the fourth is accepted", Check.get(d, "/a"), 200);
        Check.get(d, "/a");
        for (int k = 0; k < 4; k++) {
            check.yes("there is room for four behind a request without any: " + k, d.accept(17, 1));
        }
        check.no("but for four alone", d.accept(17, 1));
    }

    private static void refusedOnesAreNotAccepted(Check check) {
        StageDispatcher d = producing();
        check.no("no type", d.accept(1, 1));
        check.no("q -1", d.accept(33, -1));
        check.no("q 1001", d.accept(33, 1001));
        check.same("nothing is accepted, so all is", Check.get(d, "/a"), 200);
        check.same("its type", d.produced(), 17);
    }

    private static void bufferIsLeftAlone(Check check) {
        StageDispatcher d = producing();
        Check.typed(d, "/a");
        check.yes("one that is accepted", d.accept(16, 1));
        check.no("one that is not", d.accept(16, NONE));
        check.same("the buffer is as it was", d.request(0, 0, 0), 200);
    }
}
