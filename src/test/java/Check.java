/** What the tests share: counting wrong answers, and typing texts. */
final class Check {
    private static final int NONE = StageDispatcher.NONE;

    /** Numbers that are wrong nearly everywhere, those that wrap around to good ones among them. */
    static final int[] FAR = {
        Integer.MIN_VALUE, Integer.MIN_VALUE + 1, Integer.MAX_VALUE, Integer.MAX_VALUE - 1, -256, -255, 1 << 12, 1 << 16,
        1 << 31 | 17, 1 << 30, 1 << 16 | 17, -2, 2000};

    private int wrong = 0;

    void same(String what, long got, long due) {
        if (got != due) {
            wrong++;
            System.out.println(what + " answered " + got + ", due is " + due);
        }
    }

    void text(String what, String got, String due) {
        if (!got.equals(due)) {
            wrong++;
            System.out.println(what + ": " + got + ", due is " + due);
        }
    }

    void yes(String what, boolean got) {
        same(what, got ? 1 : 0, 1);
    }

    void no(String what, boolean got) {
        same(what, got ? 1 : 0, 0);
    }

    void refused(String what, int got) {
        same(what + " (refused)", got, NONE);
    }

    void end() {
        System.out.println(wrong == 0 ? "all answers are as due" : wrong + " answers are not as due");
        if (wrong != 0) {
            System.exit(1);
        }
    }

    /** Types a text of characters that are taken. */
    static StageDispatcher typed(StageDispatcher d, String text) {
        for (int i = 0; i < text.length(); i++) {
            if (!d.put(text.charAt(i))) {
                throw new IllegalStateException("not taken: " + text);
            }
        }
        return d;
    }

    static int root(StageDispatcher d, String template) {
        return typed(d, template).resource(true);
    }

    /** A new object with one root. */
    static StageDispatcher rooted(String template) {
        StageDispatcher d = new StageDispatcher();
        root(d, template);
        return d;
    }

    /** A new object with one root that has one method, GET without a template. */
    static StageDispatcher serving(String template) {
        StageDispatcher d = rooted(template);
        method(d, 0, 0, "");
        return d;
    }

    /** A method with these verb and template that consumes and produces any type. */
    static int method(StageDispatcher d, int resource, int verb, String template) {
        return typed(d, template).method(resource, verb, 0, 0, 0);
    }

    static int locator(StageDispatcher d, int resource, String template, int target) {
        return typed(d, template).locator(resource, target);
    }

    static int get(StageDispatcher d, String path) {
        return request(d, 0, path);
    }

    static int request(StageDispatcher d, int verb, String path) {
        return typed(d, path).request(verb, 0, 0);
    }

    /** A GET with a header. */
    static int sent(StageDispatcher d, String path, int header) {
        return typed(d, path).request(0, 0, header);
    }

    /** The parameters, joined by commas. */
    static String parameters(StageDispatcher d) {
        StringBuilder all = new StringBuilder();
        for (int k = 0; d.parameter(k, NONE) != NONE; k++) {
            all.append(k == 0 ? "" : ",");
            for (int i = 0; i < d.parameter(k, NONE); i++) {
                all.append((char) d.parameter(k, i));
            }
        }
        return all.toString();
    }

    void parameters(String what, StageDispatcher d, String due) {
        text(what + ": the parameters are", parameters(d), due);
    }

    static String hops(StageDispatcher d) {
        StringBuilder all = new StringBuilder();
        for (int k = 0; d.hop(k) != NONE; k++) {
            all.append(k == 0 ? "" : ",").append(d.hop(k));
        }
        return all.toString();
    }

    static String ran(StageDispatcher d) {
        StringBuilder all = new StringBuilder();
        for (int k = 0; d.ran(k) != NONE; k++) {
            all.append(k == 0 ? "" : ",").append(d.ran(k));
        }
        return all.toString();
    }

    /** All that is told of the latest request. */
    static String told(StageDispatcher d) {
        return "invoked " + d.invoked() + ", argument " + d.argument() + ", allowed " + d.allowed()
                + ", produced " + d.produced() + ", hops (" + hops(d) + "), ran (" + ran(d)
                + "), parameters (" + d.parameter(0, NONE) + ": " + parameters(d) + ")";
    }

    /** The filters that ran, and none behind them. */
    void ran(String what, StageDispatcher d, int... due) {
        for (int k = 0; k < due.length; k++) {
            same(what + ": ran(" + k + ")", d.ran(k), due[k]);
        }
        same(what + ": ran(" + due.length + ")", d.ran(due.length), NONE);
    }

    void hops(String what, StageDispatcher d, int... due) {
        for (int k = 0; k < due.length; k++) {
            same(what + ": hop(" + k + ")", d.hop(k), due[k]);
        }
        same(what + ": hop(" + due.length + ")", d.hop(due.length), NONE);
    }
}
