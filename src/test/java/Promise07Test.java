/** Promise 7: filter. */
public final class Promise07Test {
    private static final int NONE = StageDispatcher.NONE;

    public static void main(String[] args) {
        Check check = new Check();
        numbers(check);
        priorities(check);
        names(check);
        kinds(check);
        statuses(check);
        anyX(check);
        eight(check);
        bufferIsLeftAlone(check);
        check.end();
    }

    /** "answers its number (from 0 on)": of all kinds together, and none for those refused. */
    private static void numbers(Check check) {
        StageDispatcher d = Check.serving("/a");
        check.same("kind 2", d.filter(0, 0, 2, 0, 0), 0);
        check.refused("a wrong one", d.filter(0, 0, 3, 0, 0));
        check.same("kind 0", d.filter(0, 0, 0, 1, 0), 1);
        check.same("kind 1", d.filter(0, 0, 1, 1, 0), 2);
        Check.get(d, "/a");
        check.ran("all", d, 1, 2, 0);
    }

    /** "Refused (NONE) when priority is not 0 .. 99" */
    private static void priorities(Check check) {
        StageDispatcher d = new StageDispatcher();
        check.refused("priority -1", d.filter(-1, 0, 0, 0, 0));
        check.refused("priority 100", d.filter(100, 0, 0, 0, 0));
        for (int far : Check.FAR) {
            check.refused("priority " + far, d.filter(far, 0, 0, 0, 0));
        }
        check.same("priority 99", d.filter(99, 0, 0, 0, 0), 0);
        check.same("priority 98", d.filter(98, 0, 0, 0, 0), 1);
        check.same("priority 1", d.filter(1, 0, 0, 0, 0), 2);
        check.same("priority 0", d.filter(0, 0, 0, 0, 0), 3);
        Check.get(d, "/a");
        check.ran("the refused ones are not there", d, 3, 2, 1, 0);
    }

    /** "name not 0 .. 3" */
    private static void names(Check check) {
        StageDispatcher d = new StageDispatcher();
        for (int kind = 0; kind <= 2; kind++) {
            check.refused("name -1", d.filter(0, -1, kind, 0, 0));
            check.refused("name 4", d.filter(0, 4, kind, 0, 0));
            for (int far : Check.FAR) {
                check.refused("name " + far, d.filter(0, far, kind, 0, 0));
            }
        }
        for (int name = 0; name <= 3; name++) {
            check.same("name " + name, d.filter(0, name, 0, 0, 0), name);
        }
    }

    /** "kind not 0 .. 2" */
    private static void kinds(Check check) {
        StageDispatcher d = new StageDispatcher();
        check.refused("kind -1", d.filter(0, 0, -1, 0, 0));
        check.refused("kind 3", d.filter(0, 0, 3, 0, 0));
        for (int far : Check.FAR) {
            check.refused("kind " + far, d.filter(0, 0, far, 0, 0));
        }
        for (int kind = 0; kind <= 2; kind++) {
            check.same("kind " + kind, d.filter(0, 0, kind, 0, 0), kind);
        }
    }

    /** "status neither 0 .. 5 nor 100 .. 599", also where the status is of no use */
    private static void statuses(Check check) {
        for (int kind = 0; kind <= 2; kind++) {
            for (int status = -20; status <= 620; status++) {
                boolean due = status >= 0 && status <= 5 || status >= 100 && status <= 599;
                StageDispatcher d = new StageDispatcher();
                check.same("status " + status + " of kind " + kind, d.filter(0, 0, kind, 0, status), due ? 0 : NONE);
            }
            for (int far : Check.FAR) {
                check.refused("status " + far, new StageDispatcher().filter(0, 0, kind, 0, far));
            }
        }
    }

    private static void anyX(Check check) {
        for (int x : new int[] {Integer.MIN_VALUE, -1, 0, 1, Integer.MAX_VALUE}) {
            StageDispatcher d = new StageDispatcher();
            check.same("x " + x, d.filter(0, 0, 0, x, 299), 0);
            check.same("the header " + x, Check.sent(d, "/a", x), 299);
            check.same("a header one less", Check.sent(d, "/a", x - 1), 404);
            check.same("a header one more", Check.sent(d, "/a", x + 1), 404);
        }
    }

    /** "or 8 are there" */
    private static void eight(Check check) {
        StageDispatcher d = new StageDispatcher();
        for (int f = 0; f < 8; f++) {
            check.same("filter " + f, d.filter(50, 0, f % 2 * 2, -1, 200), f);
        }
        for (int kind = 0; kind <= 2; kind++) {
            check.refused("a ninth of kind " + kind, d.filter(0, 0, kind, 0, 500));
        }
        check.same("the ninth does not end it", Check.get(d, "/a"), 404);
        check.ran("the ninth is not there", d, 0, 2, 4, 6, 1, 3, 5, 7);
    }

    private static void bufferIsLeftAlone(Check check) {
        StageDispatcher d = Check.serving("/a");
        Check.typed(d, "/a");
        check.same("one that is added", d.filter(0, 0, 0, 1, 0), 0);
        check.refused("one that is not", d.filter(100, 0, 0, 1, 0));
        check.same("the buffer is as it was", d.request(0, 0, 0), 200);
    }
}
