/** What the tests share: counting wrong answers, and typing texts. */
final class Check {
    private int wrong = 0;

    void same(String what, long got, long due) {
        if (got != due) {
            wrong++;
            System.out.println(what + " answered " + got + ", due is " + due);
        }
    }

    void yes(String what, boolean got) {
        same(what, got ? 1 : 0, 1);
    }

    void no(String what, boolean got) {
        same(what, got ? 1 : 0, 0);
    }

    void end() {
        System.out.println(wrong == 0 ? "all answers are as due" : wrong + " answers are not as due");
        if (wrong != 0) {
            System.exit(1);
        }
    }

    /** Types a text of characters that are taken. */
    static StageDispatcher typed(StageDispatcher d, String text) {
        for (int i = 0; i < text.length(); i++) {
            if (!d.put(text.charAt(i))) {
                throw new IllegalStateException("not taken: " + text);
            }
        }
        return d;
    }

    static int root(StageDispatcher d, String template) {
        return typed(d, template).resource(true);
    }

    /** A method with these verb and template that consumes and produces any type. */
    static int method(StageDispatcher d, int resource, int verb, String template) {
        return typed(d, template).method(resource, verb, 0, 0, 0);
    }

    static int locator(StageDispatcher d, int resource, String template, int target) {
        return typed(d, template).locator(resource, target);
    }

    static int get(StageDispatcher d, String path) {
        return request(d, 0, path);
    }

    static int request(StageDispatcher d, int verb, String path) {
        return typed(d, path).request(verb, 0, 0);
    }

    /** The parameters, joined by commas. */
    static String parameters(StageDispatcher d) {
        StringBuilder all = new StringBuilder();
        for (int k = 0; d.parameter(k, StageDispatcher.NONE) != StageDispatcher.NONE; k++) {
            all.append(k == 0 ? "" : ",");
            for (int i = 0; i < d.parameter(k, StageDispatcher.NONE); i++) {
                all.append((char) d.parameter(k, i));
            }
        }
        return all.toString();
    }

    void parameters(String what, StageDispatcher d, String due) {
        String got = parameters(d);
        if (!got.equals(due)) {
            wrong++;
            System.out.println(what + ": the parameters are " + got + ", due is " + due);
        }
    }

    /** The filters that ran, and none behind them. */
    void ran(String what, StageDispatcher d, int... due) {
        for (int k = 0; k < due.length; k++) {
            same(what + ": ran(" + k + ")", d.ran(k), due[k]);
        }
        same(what + ": ran(" + due.length + ")", d.ran(due.length), StageDispatcher.NONE);
    }

    void hops(String what, StageDispatcher d, int... due) {
        for (int k = 0; k < due.length; k++) {
            same(what + ": hop(" + k + ")", d.hop(k), due[k]);
        }
        same(what + ": hop(" + due.length + ")", d.hop(due.length), StageDispatcher.NONE);
    }
}
