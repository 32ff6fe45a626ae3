import java.util.ArrayList;
import java.util.Comparator;
import java.util.List;
import java.util.regex.Matcher;
import java.util.regex.Pattern;

/** A second reading of the document, with the whole Java library at hand: slow and plain. */
final class Model {
    static final class Method {
        int number;
        int owner;
        String template;
        int verb;
        int consumes;
        int produces;
        int quality;
        int converts = -1;
        int name = 0;
        int throwing = 0;
    }

    record Locator(int owner, String template, int target) {
    }

    record Filter(int number, int priority, int name, int kind, int x, int status) {
    }

    record Accepted(int type, int q) {
    }

    /** One of the pairs that stage 3 compares. */
    record Offer(Method method, int consumedRank, int meetRank, int q, int difference, int met) {
    }

    private String buffer = "";
    private final List<String> resources = new ArrayList<>();
    private final List<Method> methods = new ArrayList<>();
    private final List<Locator> locators = new ArrayList<>();
    private final List<Filter> filters = new ArrayList<>();
    private final int[] mappers = new int[16];
    private List<Accepted> accepted = new ArrayList<>();

    List<Integer> hops = new ArrayList<>();
    List<String> parameters = new ArrayList<>();
    List<Integer> ran = new ArrayList<>();
    int invoked = -1;
    int argument = 0;
    int allowed = 0;
    int produced = -1;
    private Method matched = null;
    private int thrown = 0;

    boolean put(char c) {
        if ("abcdefghijklmnopqrstuvwxyz0123456789/{}".indexOf(c) < 0 || buffer.length() == 24) {
            return false;
        }
        buffer += c;
        return true;
    }

    private String take() {
        String text = buffer;
        buffer = "";
        return text;
    }

    static boolean good(String text) {
        return text.matches("/([a-z0-9/]|\\{[dr]?\\})+")
                && !text.endsWith("/")
                && groups(text) <= 4;
    }

    private static int groups(String template) {
        return (int) template.chars().filter(c -> c == '{').count();
    }

    int resource(boolean root) {
        String text = take();
        if (resources.size() == 6 || root && !good(text)) {
            return -1;
        }
        resources.add(root ? text : null);
        return resources.size() - 1;
    }

    private static boolean type(int type) {
        for (int t = 0; t <= 3; t++) {
            for (int s = 0; s <= (t == 0 ? 0 : 3); s++) {
                if (type == 16 * t + s) {
                    return true;
                }
            }
        }
        return false;
    }

    private static boolean concrete(int type) {
        return type(type) && type % 16 != 0;
    }

    int method(int resource, int verb, int consumes, int produces, int quality) {
        String text = take();
        if (!text.isEmpty() && !good(text) || resource < 0 || resource >= resources.size() || verb < 0 || verb > 5
                || !type(consumes) || !type(produces) || quality < 0 || quality > 1000 || methods.size() == 12) {
            return -1;
        }
        Method m = new Method();
        m.number = methods.size();
        m.owner = resource;
        m.template = text.isEmpty() ? null : text;
        m.verb = verb;
        m.consumes = consumes;
        m.produces = produces;
        m.quality = quality;
        methods.add(m);
        return m.number;
    }

    boolean detail(int m, int converts, int name, int throwing) {
        if (m < 0 || m >= methods.size() || converts < -1 || converts > 9 || name < 0 || name > 3
                || throwing < 0 || throwing > 15) {
            return false;
        }
        methods.get(m).converts = converts;
        methods.get(m).name = name;
        methods.get(m).throwing = throwing;
        return true;
    }

    int locator(int resource, int target) {
        String text = take();
        if (!good(text) || resource < 0 || resource >= resources.size() || target < 0 || target >= resources.size()
                || locators.size() == 8) {
            return -1;
        }
        locators.add(new Locator(resource, text, target));
        return locators.size() - 1;
    }

    int filter(int priority, int name, int kind, int x, int status) {
        boolean statusGood = status >= 0 && status <= 5 || status >= 100 && status <= 599;
        if (priority < 0 || priority > 99 || name < 0 || name > 3 || kind < 0 || kind > 2 || !statusGood
                || filters.size() == 8) {
            return -1;
        }
        filters.add(new Filter(filters.size(), priority, name, kind, x, status));
        return filters.size() - 1;
    }

    boolean mapper(int t, int status) {
        if (t < 1 || t > 15 || status != 0 && (status < 100 || status > 599)) {
            return false;
        }
        mappers[t] = status;
        return true;
    }

    boolean accept(int type, int q) {
        if (!type(type) || q < 0 || q > 1000 || accepted.size() == 4) {
            return false;
        }
        accepted.add(new Accepted(type, q));
        return true;
    }

    int request(int verb, int content, int header) {
        String path = take();
        if (!path.matches("/[^{}]*") || verb < 0 || verb > 5 || content != 0 && !concrete(content)) {
            return -1;
        }
        hops = new ArrayList<>();
        parameters = new ArrayList<>();
        ran = new ArrayList<>();
        invoked = -1;
        argument = 0;
        allowed = 0;
        produced = -1;
        matched = null;
        thrown = 0;
        int status = steps(path, verb, content, header);
        filters.stream()
                .filter(f -> f.kind == 2 && bound(f))
                .sorted(Comparator.comparingInt((Filter f) -> -f.priority).thenComparingInt(f -> f.number))
                .forEach(f -> ran.add(f.number));
        accepted = new ArrayList<>();
        return status;
    }

    private boolean bound(Filter f) {
        return f.name == 0 || matched != null && f.name == matched.name;
    }

    private int steps(String path, int verb, int content, int header) {
        int now = verb;
        for (Filter f : inOrder(0)) {
            ran.add(f.number);
            if (f.x == header && f.status >= 100) {
                return f.status;
            }
            if (f.x == header) {
                now = f.status;
            }
        }
        Integer ended = match(path, now, content);
        if (ended != null) {
            return ended;
        }
        if (thrown != 0) {
            return mappedStatus();
        }
        for (Filter f : inOrder(1)) {
            if (bound(f)) {
                ran.add(f.number);
                if (f.x == header && f.status >= 100) {
                    return f.status;
                }
            }
        }
        int converted = 0;
        if (matched.converts >= 0 && matched.converts < parameters.size()) {
            String text = parameters.get(matched.converts);
            if (!text.matches("[0-9]+") || new java.math.BigInteger(text).bitLength() > 31) {
                thrown = 8;
                return mappedStatus();
            }
            converted = new java.math.BigInteger(text).intValueExact();
        }
        invoked = matched.number;
        argument = converted;
        thrown = matched.throwing;
        return thrown == 0 ? 200 : mappedStatus();
    }

    private List<Filter> inOrder(int kind) {
        return filters.stream()
                .filter(f -> f.kind == kind)
                .sorted(Comparator.comparingInt((Filter f) -> f.priority).thenComparingInt(f -> f.number))
                .toList();
    }

    private int mappedStatus() {
        for (int t = thrown; t >= 1; t = t / 2) {
            if (mappers[t] != 0) {
                return mappers[t];
            }
        }
        return switch (thrown) {
            case 8 -> 404;
            case 9 -> 405;
            case 10 -> 406;
            case 11 -> 415;
            default -> 500;
        };
    }

    /** The groups' texts and, as the last one, the rest; null if the template does not match. */
    private static List<String> ways(String template, String text) {
        // A greedy expression tries the longest text of the first group first, and so on.
        String expression = template.replace("{}", "([^/]+)").replace("{d}", "([0-9]+)").replace("{r}", "(.*)");
        Matcher matcher = Pattern.compile(expression + "(|/.*)").matcher(text);
        if (!matcher.matches()) {
            return null;
        }
        List<String> texts = new ArrayList<>();
        for (int g = 1; g <= matcher.groupCount(); g++) {
            texts.add(matcher.group(g));
        }
        return texts;
    }

    private static String rest(String template, String text) {
        List<String> texts = ways(template, text);
        return texts == null ? null : texts.get(texts.size() - 1);
    }

    private static boolean done(String rest) {
        return rest != null && (rest.isEmpty() || rest.equals("/"));
    }

    private static int weight(String template) {
        int groups = groups(template);
        int plain = template.split("\\{\\}", -1).length - 1;
        int literals = template.replaceAll("\\{[dr]?\\}", "").length();
        return literals * 10000 + groups * 100 + (groups - plain);
    }

    private String follow(String template, String text) {
        List<String> texts = ways(template, text);
        parameters.addAll(texts.subList(0, texts.size() - 1));
        return texts.get(texts.size() - 1);
    }

    /** A status with which the matching ends the request, or null. */
    private Integer match(String path, int verb, int content) {
        String root = null;
        for (int r = 0; r < resources.size(); r++) {
            String template = resources.get(r);
            String rest = template == null ? null : rest(template, path);
            int number = r;
            boolean deeper = methods.stream().anyMatch(m -> m.owner == number && m.template != null)
                    || locators.stream().anyMatch(l -> l.owner == number);
            if (rest != null && (done(rest) || deeper) && (root == null || weight(template) > weight(root))) {
                root = template;
            }
        }
        if (root == null) {
            thrown = 8;
            return null;
        }
        List<Integer> classes = new ArrayList<>();
        for (int r = 0; r < resources.size(); r++) {
            if (root.equals(resources.get(r))) {
                classes.add(r);
            }
        }
        return matchIn(classes, follow(root, path), verb, content);
    }

    private Integer matchIn(List<Integer> classes, String text, int verb, int content) {
        List<Method> own = methods.stream().filter(m -> classes.contains(m.owner)).toList();
        List<Method> bare = own.stream().filter(m -> m.template == null).toList();
        if (done(text) && !bare.isEmpty()) {
            return choose(bare, verb, content);
        }
        String best = null;
        for (Method m : own) {
            if (m.template != null && done(rest(m.template, text))
                    && (best == null || weight(m.template) > weight(best))) {
                best = m.template;
            }
        }
        Locator hop = null;
        for (Locator l : locators) {
            String heaviest = hop == null ? best : hop.template;
            if (classes.contains(l.owner) && rest(l.template, text) != null
                    && (heaviest == null || weight(l.template) > weight(heaviest))) {
                hop = l;
            }
        }
        if (hop != null) {
            hops.add(hop.target);
            return matchIn(List.of(hop.target), follow(hop.template, text), verb, content);
        }
        if (best == null) {
            thrown = 8;
            return null;
        }
        follow(best, text);
        String counted = best;
        return choose(own.stream().filter(m -> counted.equals(m.template)).toList(), verb, content);
    }

    private static int rank(int type) {
        return type == 0 ? 0 : type % 16 == 0 ? 1 : 2;
    }

    private static boolean covers(int a, int b) {
        return a == 0 || a == b || a % 16 == 0 && a / 16 == b / 16;
    }

    private Integer choose(List<Method> candidates, int verb, int content) {
        allowed = 32;
        for (Method m : candidates) {
            allowed |= m.verb == 0 ? 1 | 16 : 1 << m.verb;
        }
        List<Method> left = candidates.stream().filter(m -> m.verb == verb).toList();
        if (left.isEmpty() && verb == 4) {
            left = candidates.stream().filter(m -> m.verb == 0).toList();
        }
        if (left.isEmpty() && verb == 5) {
            return 204;
        }
        if (left.isEmpty()) {
            thrown = 9;
            return null;
        }
        left = left.stream().filter(m -> content == 0 || covers(m.consumes, content)).toList();
        if (left.isEmpty()) {
            thrown = 11;
            return null;
        }
        List<Accepted> types = accepted.isEmpty() ? List.of(new Accepted(0, 1000)) : accepted;
        List<Offer> offers = new ArrayList<>();
        for (Method m : left) {
            for (Accepted a : types) {
                boolean down = covers(a.type, m.produces);
                if (a.q > 0 && (down || covers(m.produces, a.type))) {
                    int met = down ? m.produces : a.type;
                    offers.add(new Offer(m, content == 0 ? 0 : rank(m.consumes), rank(met), a.q,
                            Math.abs(rank(a.type) - rank(m.produces)), met));
                }
            }
        }
        Comparator<Offer> worth = Comparator.comparingInt(Offer::consumedRank)
                .thenComparingInt(Offer::meetRank)
                .thenComparingInt(Offer::q)
                .thenComparingInt(o -> o.method.quality)
                .thenComparingInt(o -> -o.difference);
        Offer best = null;
        for (Offer o : offers) {
            if (best == null || worth.compare(o, best) > 0) {
                best = o;
            }
        }
        if (best == null || !concrete(best.met) && best.met != 0 && best.met != 16) {
            thrown = 10;
            return null;
        }
        matched = best.method;
        produced = concrete(best.met) ? best.met : 255;
        return null;
    }
}
