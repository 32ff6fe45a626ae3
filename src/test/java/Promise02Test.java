/** Promise 2: put. */
public final class Promise02Test {
    private static final String TAKEN = "abcdefghijklmnopqrstuvwxyz0123456789/{}";
    private static final int NONE = StageDispatcher.NONE;

    public static void main(String[] args) {
        Check check = new Check();
        appends(check);
        characters(check);
        wrongOnesChangeNothing(check);
        full(check);
        fullAgain(check);
        check.end();
    }

    private static void appends(Check check) {
        StageDispatcher d = Check.serving("/{r}");
        check.yes("/", d.put('/'));
        check.same("one", d.request(0, 0, 0), 200);
        check.parameters("one", d, "");
        for (char c : "/z0a9".toCharArray()) {
            check.yes("put " + c, d.put(c));
        }
        check.same("in the order in which they came", d.request(0, 0, 0), 200);
        check.parameters("in the order in which they came", d, "z0a9");
    }

    /** "false .. when it is none of those that are said": all that a char can be. */
    private static void characters(Check check) {
        for (int c = 0; c <= 0xFFFF; c++) {
            boolean due = TAKEN.indexOf(c) >= 0;
            check.same("put " + c, new StageDispatcher().put((char) c) ? 1 : 0, due ? 1 : 0);
        }
    }

    /** "changing nothing": at the beginning, in the middle and behind a text. */
    private static void wrongOnesChangeNothing(Check check) {
        // The neighbours of those that are taken, and one whose low eight bits are those of an a.
        char[] wrong = {'.', ':', '`', '|', '~', 'A', 'Z', ' ', 0, 127, 0xFFFF, 'a' + 256};
        for (char c : wrong) {
            StageDispatcher d = Check.serving("/{r}");
            check.no("put " + (int) c + " into an empty buffer", d.put(c));
            check.refused("it is empty still", d.request(0, 0, 0));
            check.yes("/", d.put('/'));
            check.no("put " + (int) c + " in the middle", d.put(c));
            check.yes("x", d.put('x'));
            check.no("put " + (int) c + " behind", d.put(c));
            check.same("a request", d.request(0, 0, 0), 200);
            check.parameters("without " + (int) c, d, "x");
        }
    }

    /** "or 24 are there" */
    private static void full(Check check) {
        StageDispatcher d = Check.serving("/{r}");
        check.yes("the first", d.put('/'));
        for (int i = 1; i < 24; i++) {
            check.yes("character " + i, d.put((char) ('a' + i)));
        }
        check.no("the 25th", d.put('a'));
        check.no("the 25th, had it been {", d.put('{'));
        check.no("the 25th, which is wrong too", d.put('A'));
        check.same("a request", d.request(0, 0, 0), 200);
        check.same("all of the 24 are there", d.parameter(0, NONE), 23);
        check.parameters("as they were", d, "bcdefghijklmnopqrstuvwx");
    }

    /** The buffer is emptied by the calls that use it, and then takes 24 again. */
    private static void fullAgain(Check check) {
        for (int call = 0; call < 4; call++) {
            StageDispatcher d = new StageDispatcher();
            Check.typed(d, "/aaaaaaaaaaaaaaaaaaaaaaa");
            check.no("full", d.put('a'));
            use(d, call);
            Check.typed(d, "/bbbbbbbbbbbbbbbbbbbbbbb");
            check.no("full again, behind call " + call, d.put('b'));
        }
    }

    private static int use(StageDispatcher d, int call) {
        switch (call) {
            case 0:
                return d.resource(true);
            case 1:
                return d.method(0, 0, 0, 0, 0);
            case 2:
                return d.locator(0, 0);
            default:
                return d.request(0, 0, 0);
        }
    }
}
