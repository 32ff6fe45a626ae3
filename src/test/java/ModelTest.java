import java.util.ArrayList;
import java.util.List;
import java.util.Random;
import java.util.TreeMap;

/**
 * Runs of calls drawn from fixed seeds, each answer held against that of the model. In half of the
 * runs paths lead through many templates; in the other half methods without a template compete.
 */
public final class ModelTest {
    private static final int RUNS = 20000;
    private static final int CALLS = 512;
    /** A turn types at most so many characters, makes a call, and asks what is told of a request. */
    private static final int CALLS_OF_A_TURN = 120;
    private static final String[] TEMPLATE_PARTS = {
        "/a", "/b", "/ab", "/{}", "/{d}", "/{r}", "/a{}", "/{d}x", "/{}{}", "/{r}/a", "/1", "/{r}{d}", "/{}b", "//a"};
    private static final String[] BAD_PARTS = {"{", "}", "/", "{x}", "{dr}", "{}{}{}", "a", "{r}", "{d}", "{d", "d}"};
    private static final String[] PATH_PARTS = {
        "/a", "/b", "/ab", "/1", "/12", "/", "//", "/1x", "/a1", "/bb", "/a/b", "/2147483647", "/2147483648", "/007"};
    private static final int[] TYPES = {0, 0, 16, 32, 17, 17, 18, 33, 49};
    private static final int[] CONTENTS = {0, 0, 0, 17, 18, 33};
    private static final int[] ODD = {-1, 6, 7, 15, 16, 99, 100, 599, 600, 1000, 1001, 1, 4, 52, 64, 255,
        Integer.MIN_VALUE, Integer.MAX_VALUE};

    private final Check check;
    private final Random random;
    private final int run;
    private final StageDispatcher real = new StageDispatcher();
    private final Model model = new Model();
    private final TreeMap<Integer, Integer> statuses;
    private final List<String> rootTemplates = new ArrayList<>();
    private final List<String> deeperTemplates = new ArrayList<>();
    private final boolean competing;
    private int calls = 0;

    private ModelTest(Check check, int run, TreeMap<Integer, Integer> statuses) {
        this.check = check;
        this.run = run;
        this.random = new Random(run);
        this.statuses = statuses;
        this.competing = run % 2 == 1;
    }

    public static void main(String[] args) {
        Check check = new Check();
        TreeMap<Integer, Integer> statuses = new TreeMap<>();
        for (int run = 0; run < RUNS; run++) {
            new ModelTest(check, run, statuses).play();
        }
        System.out.println("requests by status: " + statuses + " (0: other ones)");
        for (int status : new int[] {-1, 200, 204, 404, 405, 406, 415, 500}) {
            check.yes("requests with the status " + status, statuses.getOrDefault(status, 0) > 400);
        }
        check.end();
    }

    private void play() {
        addResource();
        addResource();
        while (calls < CALLS - CALLS_OF_A_TURN) {
            switch (random.nextInt(20)) {
                case 0 -> addResource();
                case 1, 2, 3, 4 -> addMethod();
                case 5, 6 -> addLocator();
                case 7 -> addFilter();
                case 8, 9 -> setDetail();
                case 10 -> setMapper();
                case 11, 12, 13 -> addAccepted();
                default -> ask();
            }
        }
    }

    private void due(String call, int got, int want) {
        calls++;
        check.same("run " + run + ", call " + calls + ": " + call, got, want);
    }

    private void due(String call, boolean got, boolean want) {
        due(call, got ? 1 : 0, want ? 1 : 0);
    }

    private boolean rarely() {
        return random.nextInt(25) == 0;
    }

    /** A number below a bound, now and then one that may be wrong. */
    private int number(int bound) {
        return rarely() ? ODD[random.nextInt(ODD.length)] : random.nextInt(bound);
    }

    private int one(int[] numbers) {
        return rarely() ? ODD[random.nextInt(ODD.length)] : numbers[random.nextInt(numbers.length)];
    }

    private void type(String text) {
        for (int i = 0; i < text.length(); i++) {
            char c = text.charAt(i);
            due("put(" + c + ")", real.put(c), model.put(c));
        }
        if (rarely()) {
            char c = (char) random.nextInt(300);
            due("put(" + (int) c + ")", real.put(c), model.put(c));
        }
    }

    private String template() {
        StringBuilder text = new StringBuilder();
        int parts = rarely() ? 9 : 1 + random.nextInt(2);
        for (int i = 0; i < parts; i++) {
            text.append(TEMPLATE_PARTS[random.nextInt(TEMPLATE_PARTS.length)]);
            if (random.nextInt(15) == 0) {
                text.append(BAD_PARTS[random.nextInt(BAD_PARTS.length)]);
            }
        }
        return text.toString();
    }

    private String path() {
        StringBuilder text = new StringBuilder();
        if (random.nextInt(6) == 0) {
            int parts = rarely() ? 9 : 1 + random.nextInt(4);
            for (int i = 0; i < parts; i++) {
                text.append(PATH_PARTS[random.nextInt(PATH_PARTS.length)]);
            }
        } else {
            text.append(filled(rootTemplates));
            for (int i = random.nextInt(competing ? 2 : 4); i > 0; i--) {
                text.append(filled(deeperTemplates));
            }
            text.append(random.nextInt(4) == 0 ? "/" : "");
        }
        if (rarely()) {
            text.append(BAD_PARTS[random.nextInt(BAD_PARTS.length)]);
        }
        return rarely() && text.length() > 0 ? text.substring(1) : text.toString();
    }

    /** A text that one of the templates matches. */
    private String filled(List<String> templates) {
        if (templates.isEmpty()) {
            return "/a";
        }
        String text = templates.get(random.nextInt(templates.size()));
        while (text.contains("{")) {
            text = text.replaceFirst("\\{\\}", new String[] {"a", "1", "ab", "b1"}[random.nextInt(4)]);
            text = text.replaceFirst("\\{d\\}", new String[] {"1", "12", "007", "2147483648"}[random.nextInt(4)]);
            text = text.replaceFirst("\\{r\\}", new String[] {"", "1", "a/b", "/a"}[random.nextInt(4)]);
        }
        return text;
    }

    private void addResource() {
        boolean root = random.nextInt(4) != 0;
        String text = root || rarely() ? (competing ? "/a" : template()) : "";
        type(text);
        int number = real.resource(root);
        if (root && number >= 0) {
            rootTemplates.add(shown(text));
        }
        due("resource(" + root + ")", number, model.resource(root));
    }

    /** What fits into the buffer. */
    private static String shown(String text) {
        return text.length() > 24 ? text.substring(0, 24) : text;
    }

    private void addMethod() {
        String text = random.nextInt(competing ? 8 : 2) == 0 ? template() : "";
        type(text);
        int resource = number(competing ? 1 : 3);
        int verb = random.nextBoolean() ? 0 : number(6);
        int consumes = one(TYPES);
        int produces = one(TYPES);
        int quality = number(3);
        int number = real.method(resource, verb, consumes, produces, quality);
        if (number >= 0 && !text.isEmpty()) {
            deeperTemplates.add(shown(text));
        }
        due("method(" + resource + ", " + verb + ", " + consumes + ", " + produces + ", " + quality + ")",
                number, model.method(resource, verb, consumes, produces, quality));
    }

    private void setDetail() {
        int m = number(12);
        int converts = random.nextBoolean() ? -1 : number(4);
        int name = number(4);
        int throwing = random.nextInt(3) != 0 ? 0 : number(16);
        due("detail(" + m + ", " + converts + ", " + name + ", " + throwing + ")",
                real.detail(m, converts, name, throwing), model.detail(m, converts, name, throwing));
    }

    private void addLocator() {
        String text = template();
        type(text);
        int resource = number(4);
        int target = number(4);
        int number = real.locator(resource, target);
        if (number >= 0) {
            deeperTemplates.add(shown(text));
        }
        due("locator(" + resource + ", " + target + ")", number, model.locator(resource, target));
    }

    private void addFilter() {
        int priority = number(4);
        int name = number(4);
        int kind = number(3);
        int x = random.nextInt(20);
        int status = random.nextBoolean() ? number(6) : 560 + random.nextInt(40);
        due("filter(" + priority + ", " + name + ", " + kind + ", " + x + ", " + status + ")",
                real.filter(priority, name, kind, x, status), model.filter(priority, name, kind, x, status));
    }

    private void setMapper() {
        int t = number(16);
        int status = random.nextInt(3) == 0 ? 440 + random.nextInt(20) : rarely() ? number(100) : 0;
        due("mapper(" + t + ", " + status + ")", real.mapper(t, status), model.mapper(t, status));
    }

    private void addAccepted() {
        int type = one(TYPES);
        int q = number(3) * (random.nextBoolean() ? 1 : 500);
        due("accept(" + type + ", " + q + ")", real.accept(type, q), model.accept(type, q));
    }

    private void ask() {
        type(path());
        int verb = random.nextInt(3) == 0 ? number(6) : 0;
        int content = one(CONTENTS);
        int header = random.nextInt(20);
        int status = real.request(verb, content, header);
        due("request(" + verb + ", " + content + ", " + header + ")", status,
                model.request(verb, content, header));
        boolean usual = status < 440 || status == 500;
        statuses.merge(usual ? status : 0, 1, Integer::sum);
        compareLatest();
    }

    private void compareLatest() {
        due("invoked()", real.invoked(), model.invoked);
        due("argument()", real.argument(), model.argument);
        due("allowed()", real.allowed(), model.allowed);
        due("produced()", real.produced(), model.produced);
        for (int k = -1; k <= model.hops.size(); k++) {
            due("hop(" + k + ")", real.hop(k), at(model.hops, k));
        }
        for (int k = -1; k <= model.ran.size(); k++) {
            due("ran(" + k + ")", real.ran(k), at(model.ran, k));
        }
        for (int k = -1; k <= model.parameters.size(); k++) {
            boolean there = k >= 0 && k < model.parameters.size();
            String text = there ? model.parameters.get(k) : "";
            due("parameter(" + k + ", NONE)", real.parameter(k, -1), there ? text.length() : -1);
            for (int i = 0; i <= text.length(); i++) {
                due("parameter(" + k + ", " + i + ")", real.parameter(k, i), i < text.length() ? text.charAt(i) : -1);
            }
        }
    }

    private static int at(java.util.List<Integer> list, int k) {
        return k >= 0 && k < list.size() ? list.get(k) : -1;
    }
}
