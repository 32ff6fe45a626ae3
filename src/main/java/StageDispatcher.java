/**
 * A dispatcher of requests to methods of resources. It is set up by adding resources, methods,
 * locators, filters and mappers; texts (templates and paths) are typed into a buffer beforehand.
 *
 * <p>Everything that a request needs is made once, in the constructors: a request makes no object.
 */
public final class StageDispatcher {
    public static final int NONE = -1;

    private static final int MAX_TEXT = 24;
    private static final int MAX_GROUPS = 4;
    private static final int MAX_RESOURCES = 6;
    private static final int MAX_METHODS = 12;
    private static final int MAX_LOCATORS = 8;
    private static final int MAX_FILTERS = 8;
    private static final int MAX_ACCEPTED = 4;

    private static final int MAX_QUALITY = 1000;
    private static final int MAX_PRIORITY = 99;
    private static final int MAX_NAME = 3;
    private static final int MAX_CONVERTED = 9;
    private static final int MAX_THROWN = 15;
    private static final int MAX_ARGUMENT = 2147483647;

    /** A filter's status below this one is a verb. */
    private static final int LEAST_STATUS = 100;
    private static final int GREATEST_STATUS = 599;

    private static final int GET = 0;
    private static final int HEAD = 4;
    private static final int OPTIONS = 5;

    private static final int BEFORE_MATCHING = 0;
    private static final int AFTER_MATCHING = 1;
    private static final int AT_THE_END = 2;

    private static final int NOTHING_THROWN = 0;
    private static final int NOT_FOUND = 8;
    private static final int VERB_NOT_ALLOWED = 9;
    private static final int NOT_ACCEPTABLE = 10;
    private static final int TYPE_NOT_CONSUMED = 11;

    /** Pieces of a template that are groups; a literal's piece is its character, which is greater. */
    private static final int GROUP_OF_SEGMENT = 1;
    private static final int GROUP_OF_DIGITS = 2;
    private static final int GROUP_OF_ANY = 3;

    private static final int ANY_TYPE = 0;
    private static final int ANY_OF_KIND_1 = 16;
    private static final int GREATEST_TYPE = 16 * 3 + 3;
    /** The type of an answer for which any type, or any of kind 1, would do. */
    private static final int OPEN_TYPE = 255;
    private static final int RANKS = 3;

    private final Text buffer = new Text();
    private final Catalog catalog = new Catalog();
    private final FilterChain chain = new FilterChain();
    private final Accepted accepted = new Accepted();
    private final Route route = new Route();
    private final Outcome latest = new Outcome();

    /** The status of the mapper for each thrown number, 0 where there is none. */
    private final int[] mapped = new int[MAX_THROWN + 1];

    public StageDispatcher() {
    }

    public boolean put(char c) {
        return buffer.append(c);
    }

    public int resource(boolean root) {
        boolean good = catalog.resourceCount < MAX_RESOURCES && (!root || Template.isGood(buffer));
        int number = good ? catalog.addResource(root ? new Template(buffer) : null) : NONE;
        buffer.clear();
        return number;
    }

    public int method(int resource, int verb, int consumes, int produces, int quality) {
        boolean good = catalog.methodCount < MAX_METHODS
                && (buffer.length == 0 || Template.isGood(buffer))
                && catalog.isResource(resource)
                && isVerb(verb)
                && isType(consumes)
                && isType(produces)
                && isWithin(quality, 0, MAX_QUALITY);
        int number = NONE;
        if (good) {
            Template template = buffer.length == 0 ? null : new Template(buffer);
            number = catalog.addMethod(new Method(resource, template, verb, consumes, produces, quality));
        }
        buffer.clear();
        return number;
    }

    public boolean detail(int m, int converts, int name, int throwing) {
        boolean good = isWithin(m, 0, catalog.methodCount - 1)
                && (converts == NONE || isWithin(converts, 0, MAX_CONVERTED))
                && isWithin(name, 0, MAX_NAME)
                && (throwing == NOTHING_THROWN || isThrown(throwing));
        if (good) {
            Method method = catalog.methods[m];
            method.converts = converts;
            method.name = name;
            method.throwing = throwing;
        }
        return good;
    }

    public int locator(int resource, int target) {
        boolean good = catalog.locatorCount < MAX_LOCATORS
                && Template.isGood(buffer)
                && catalog.isResource(resource)
                && catalog.isResource(target);
        int number = good ? catalog.addLocator(new Locator(resource, new Template(buffer), target)) : NONE;
        buffer.clear();
        return number;
    }

    public int filter(int priority, int name, int kind, int x, int status) {
        boolean good = chain.count < MAX_FILTERS
                && isWithin(priority, 0, MAX_PRIORITY)
                && isWithin(name, 0, MAX_NAME)
                && isWithin(kind, BEFORE_MATCHING, AT_THE_END)
                && (isVerb(status) || isStatus(status));
        return good ? chain.add(new Filter(priority, name, kind, x, status)) : NONE;
    }

    public boolean mapper(int t, int status) {
        boolean good = isThrown(t) && (status == 0 || isStatus(status));
        if (good) {
            mapped[t] = status;
        }
        return good;
    }

    public boolean accept(int type, int q) {
        boolean good = accepted.count < MAX_ACCEPTED
                && isType(type)
                && isWithin(q, 0, MAX_QUALITY);
        if (good) {
            accepted.add(type, q);
        }
        return good;
    }

    public int request(int verb, int content, int header) {
        boolean good = buffer.isPath() && isVerb(verb) && (content == 0 || isConcrete(content));
        int status = NONE;
        if (good) {
            latest.begin(buffer);
            accepted.addDefault();
            status = runSteps(verb, content, header);
            runFiltersAtTheEnd();
            accepted.clear();
        }
        buffer.clear();
        return status;
    }

    public int invoked() {
        return latest.invoked;
    }

    public int argument() {
        return latest.argument;
    }

    public int hop(int k) {
        return isWithin(k, 0, latest.hopCount - 1) ? latest.hops[k] : NONE;
    }

    public int parameter(int k, int i) {
        if (!isWithin(k, 0, latest.parameterCount - 1)) {
            return NONE;
        }
        int start = latest.parameterStart[k];
        int length = latest.parameterEnd[k] - start;
        if (i == NONE) {
            return length;
        }
        return isWithin(i, 0, length - 1) ? latest.path.chars[start + i] : NONE;
    }

    public int allowed() {
        return latest.allowed;
    }

    public int produced() {
        return latest.produced;
    }

    public int ran(int k) {
        return isWithin(k, 0, latest.ranCount - 1) ? latest.ran[k] : NONE;
    }

    /** Steps 1 to 5 of a request; answers its status. */
    private int runSteps(int verb, int content, int header) {
        int left = runFilters(BEFORE_MATCHING, verb, header);
        if (left >= LEAST_STATUS) {
            return left;
        }
        boolean found = route.findClasses(catalog, latest) && route.findCandidates(catalog, latest);
        int thrown = found ? choose(route.candidates, left, content) : NOT_FOUND;
        if (thrown != NOTHING_THROWN) {
            return statusOf(thrown);
        }
        if (latest.matched == NONE) {
            return 204;
        }
        left = runFilters(AFTER_MATCHING, left, header);
        if (left >= LEAST_STATUS) {
            return left;
        }
        thrown = invoke(catalog.methods[latest.matched]);
        return thrown == NOTHING_THROWN ? 200 : statusOf(thrown);
    }

    /**
     * Runs the filters of a kind that may end the request. Answers the status with which one of
     * them did, otherwise the verb that they leave: no verb is as great as a status.
     */
    private int runFilters(int kind, int verb, int header) {
        int left = verb;
        for (int i = 0; i < chain.count && left < LEAST_STATUS; i++) {
            int number = chain.rising[i];
            Filter filter = chain.filters[number];
            if (filter.kind == kind && (kind == BEFORE_MATCHING || isBound(filter))) {
                latest.addRan(number);
                if (filter.x == header) {
                    left = filter.status;
                }
            }
        }
        return left;
    }

    private void runFiltersAtTheEnd() {
        for (int i = 0; i < chain.count; i++) {
            int number = chain.falling[i];
            Filter filter = chain.filters[number];
            if (filter.kind == AT_THE_END && isBound(filter)) {
                latest.addRan(number);
            }
        }
    }

    /** Where the matching found no method, the filters with the name 0 alone are bound. */
    private boolean isBound(Filter filter) {
        int name = latest.matched == NONE ? 0 : catalog.methods[latest.matched].name;
        return filter.name == 0 || filter.name == name;
    }

    /** Stage 3; answers what is thrown. */
    private int choose(int candidates, int verb, int content) {
        latest.allowed = catalog.verbsAllowedBy(candidates);
        int left = catalog.withVerb(candidates, verb);
        if (left == 0 && verb == HEAD) {
            left = catalog.withVerb(candidates, GET);
        }
        if (left == 0) {
            return verb == OPTIONS ? NOTHING_THROWN : VERB_NOT_ALLOWED;
        }
        left = catalog.consuming(left, content);
        if (left == 0) {
            return TYPE_NOT_CONSUMED;
        }
        int best = bestOf(left, content != 0);
        int type = best == NONE ? NONE : answeredType(catalog.methods[best]);
        if (type == NONE) {
            return NOT_ACCEPTABLE;
        }
        latest.matched = best;
        latest.produced = type;
        return NOTHING_THROWN;
    }

    /** The method of the candidates that counts, NONE if they produce nothing that is accepted. */
    private int bestOf(int candidates, boolean hasContent) {
        int best = NONE;
        int greatest = NONE;
        for (int m = 0; m < catalog.methodCount; m++) {
            Method method = catalog.methods[m];
            int k = holds(candidates, m) ? accepted.bestFor(method) : NONE;
            if (k != NONE) {
                int rank = hasContent ? rankOf(method.consumes) : 0;
                int worth = rank * Accepted.WORTHS + accepted.worth(k, method);
                if (worth > greatest) {
                    greatest = worth;
                    best = m;
                }
            }
        }
        return best;
    }

    /** The type of a method's answer, NONE if it is left too open. */
    private int answeredType(Method method) {
        int k = accepted.bestFor(method);
        int met = k == NONE ? NONE : meeting(accepted.types[k], method.produces);
        if (met == ANY_TYPE || met == ANY_OF_KIND_1) {
            return OPEN_TYPE;
        }
        return isConcrete(met) ? met : NONE;
    }

    /** Steps 4 and 5; answers what is thrown. */
    private int invoke(Method method) {
        int argument = 0;
        if (isWithin(method.converts, 0, latest.parameterCount - 1)) {
            argument = latest.numberIn(method.converts);
        }
        if (argument == NONE) {
            return NOT_FOUND;
        }
        latest.invoked = latest.matched;
        latest.argument = argument;
        return method.throwing;
    }

    private int statusOf(int thrown) {
        for (int t = thrown; t > 0; t /= 2) {
            if (mapped[t] != 0) {
                return mapped[t];
            }
        }
        switch (thrown) {
            case NOT_FOUND:
                return 404;
            case VERB_NOT_ALLOWED:
                return 405;
            case NOT_ACCEPTABLE:
                return 406;
            case TYPE_NOT_CONSUMED:
                return 415;
            default:
                return 500;
        }
    }

    private static boolean isWithin(int number, int least, int greatest) {
        return number >= least && number <= greatest;
    }

    private static boolean isVerb(int number) {
        return isWithin(number, GET, OPTIONS);
    }

    private static boolean isStatus(int number) {
        return isWithin(number, LEAST_STATUS, GREATEST_STATUS);
    }

    private static boolean isThrown(int number) {
        return isWithin(number, 1, MAX_THROWN);
    }

    private static boolean isType(int number) {
        boolean inRange = number == ANY_TYPE || isWithin(number, ANY_OF_KIND_1, GREATEST_TYPE);
        return inRange && (number & 15) <= 3;
    }

    private static boolean isConcrete(int number) {
        return isType(number) && (number & 15) != 0;
    }

    private static int rankOf(int type) {
        if (type == ANY_TYPE) {
            return 0;
        }
        return (type & 15) == 0 ? 1 : 2;
    }

    private static boolean covers(int type, int other) {
        return type == ANY_TYPE || type == other || (type & 15) == 0 && type >> 4 == other >> 4;
    }

    /** Where two types meet, NONE if they do not. */
    private static int meeting(int type, int other) {
        if (covers(type, other)) {
            return other;
        }
        return covers(other, type) ? type : NONE;
    }

    /** Whether a set, a bit for each member, holds a member. */
    private static boolean holds(int set, int member) {
        return (set >> member & 1) != 0;
    }

    /** What was typed: the buffer, and the path of a request. */
    private static final class Text {
        final char[] chars = new char[MAX_TEXT];
        int length = 0;

        boolean append(char c) {
            boolean known = c >= 'a' && c <= 'z' || c >= '0' && c <= '9' || c == '/' || c == '{' || c == '}';
            if (!known || length >= MAX_TEXT) {
                return false;
            }
            chars[length] = c;
            length++;
            return true;
        }

        void clear() {
            length = 0;
        }

        void copyFrom(Text other) {
            System.arraycopy(other.chars, 0, chars, 0, other.length);
            length = other.length;
        }

        boolean has(int place, char c) {
            return place >= 0 && place < length && chars[place] == c;
        }

        boolean isPath() {
            for (int i = 0; i < length; i++) {
                if (chars[i] == '{' || chars[i] == '}') {
                    return false;
                }
            }
            return has(0, '/');
        }

        /** Whether the rest that begins at a place is empty or /. */
        boolean endsAt(int place) {
            return place == length || place == length - 1 && has(place, '/');
        }
    }

    /** A good template, as its pieces: two templates with the same pieces have the same characters. */
    private static final class Template {
        final int[] pieces;
        final int count;
        final int literals;
        final int groups;
        final int narrowGroups;

        /** The text is a good one. */
        Template(Text text) {
            int[] read = new int[text.length];
            int pieceCount = 0;
            int groupCount = 0;
            int narrowCount = 0;
            int at = 0;
            while (at < text.length) {
                int size = Math.max(1, pieceSize(text, at));
                read[pieceCount] = pieceAt(text, at);
                if (isGroup(read[pieceCount])) {
                    groupCount++;
                    narrowCount += read[pieceCount] == GROUP_OF_SEGMENT ? 0 : 1;
                }
                pieceCount++;
                at += size;
            }
            pieces = read;
            count = pieceCount;
            literals = pieceCount - groupCount;
            groups = groupCount;
            narrowGroups = narrowCount;
        }

        static boolean isGood(Text text) {
            int pieceCount = 0;
            int groupCount = 0;
            int at = 0;
            while (at < text.length) {
                int size = pieceSize(text, at);
                if (size == 0) {
                    return false;
                }
                groupCount += size == 1 ? 0 : 1;
                pieceCount++;
                at += size;
            }
            return text.has(0, '/')
                    && !text.has(text.length - 1, '/')
                    && pieceCount >= 2
                    && groupCount <= MAX_GROUPS;
        }

        /** The number of characters of the piece that begins at a place, 0 if none does. */
        private static int pieceSize(Text text, int at) {
            if (text.has(at, '}')) {
                return 0;
            }
            if (!text.has(at, '{')) {
                return 1;
            }
            if (text.has(at + 1, '}')) {
                return 2;
            }
            boolean narrow = text.has(at + 1, 'd') || text.has(at + 1, 'r');
            return narrow && text.has(at + 2, '}') ? 3 : 0;
        }

        private static int pieceAt(Text text, int at) {
            if (!text.has(at, '{')) {
                return text.chars[at];
            }
            if (text.has(at + 1, 'd')) {
                return GROUP_OF_DIGITS;
            }
            return text.has(at + 1, 'r') ? GROUP_OF_ANY : GROUP_OF_SEGMENT;
        }

        static boolean isGroup(int piece) {
            return piece <= GROUP_OF_ANY;
        }

        boolean isSameAs(Template other) {
            if (count != other.count) {
                return false;
            }
            for (int p = 0; p < count; p++) {
                if (pieces[p] != other.pieces[p]) {
                    return false;
                }
            }
            return true;
        }

        boolean isHeavierThan(Template other) {
            if (literals != other.literals) {
                return literals > other.literals;
            }
            if (groups != other.groups) {
                return groups > other.groups;
            }
            return narrowGroups > other.narrowGroups;
        }
    }

    /** Finds the way that counts in which a template matches a path from a place on. */
    private static final class Fit {
        /** For each piece the places of the path, as bits, from which it and those behind it match. */
        final int[] open = new int[MAX_TEXT + 1];
        final int[] groupStart = new int[MAX_GROUPS];
        final int[] groupEnd = new int[MAX_GROUPS];
        int groupCount = 0;
        int rest = 0;

        boolean find(Template template, Text path, int from) {
            openPlaces(template, path, from);
            if (!holds(open[0], from)) {
                return false;
            }
            groupCount = 0;
            int at = from;
            for (int p = 0; p < template.count; p++) {
                int end = lastEnd(template.pieces[p], path, at, open[p + 1]);
                if (Template.isGroup(template.pieces[p])) {
                    groupStart[groupCount] = at;
                    groupEnd[groupCount] = end;
                    groupCount++;
                }
                at = end;
            }
            rest = at;
            return true;
        }

        /** Backwards, so that the walk forwards can take each longest text and never turn back. */
        private void openPlaces(Template template, Text path, int from) {
            int rests = 1 << path.length;
            for (int i = from; i < path.length; i++) {
                rests |= path.has(i, '/') ? 1 << i : 0;
            }
            open[template.count] = rests;
            for (int p = template.count - 1; p >= 0; p--) {
                int places = 0;
                for (int i = from; i <= path.length; i++) {
                    places |= lastEnd(template.pieces[p], path, i, open[p + 1]) == NONE ? 0 : 1 << i;
                }
                open[p] = places;
            }
        }

        /** The last of the open places at which a piece's text that begins at start may end, or NONE. */
        private static int lastEnd(int piece, Text path, int start, int openPlaces) {
            int least = piece == GROUP_OF_ANY ? start : start + 1;
            int greatest = Template.isGroup(piece) ? path.length : Math.min(path.length, start + 1);
            int end = start;
            while (end < greatest && mayHold(piece, path.chars[end])) {
                end++;
            }
            while (end >= least && !holds(openPlaces, end)) {
                end--;
            }
            return end >= least ? end : NONE;
        }

        private static boolean mayHold(int piece, char c) {
            switch (piece) {
                case GROUP_OF_SEGMENT:
                    return c != '/';
                case GROUP_OF_DIGITS:
                    return c >= '0' && c <= '9';
                case GROUP_OF_ANY:
                    return true;
                default:
                    return c == piece;
            }
        }
    }

    /** A method of a resource; its template is null if it has none. */
    private static final class Method {
        final int owner;
        final Template template;
        final int verb;
        final int consumes;
        final int produces;
        final int quality;
        int converts = NONE;
        int name = 0;
        int throwing = NOTHING_THROWN;

        Method(int owner, Template template, int verb, int consumes, int produces, int quality) {
            this.owner = owner;
            this.template = template;
            this.verb = verb;
            this.consumes = consumes;
            this.produces = produces;
            this.quality = quality;
        }
    }

    private record Locator(int owner, Template template, int target) {
    }

    private record Filter(int priority, int name, int kind, int x, int status) {
    }

    /** The resources, methods and locators. Sets of resources or methods have a bit for each. */
    private static final class Catalog {
        /** The template of each resource, null for one that is no root. */
        final Template[] roots = new Template[MAX_RESOURCES];
        final Method[] methods = new Method[MAX_METHODS];
        final Locator[] locators = new Locator[MAX_LOCATORS];
        int resourceCount = 0;
        int methodCount = 0;
        int locatorCount = 0;

        int addResource(Template template) {
            roots[resourceCount] = template;
            resourceCount++;
            return resourceCount - 1;
        }

        int addMethod(Method method) {
            methods[methodCount] = method;
            methodCount++;
            return methodCount - 1;
        }

        int addLocator(Locator locator) {
            locators[locatorCount] = locator;
            locatorCount++;
            return locatorCount - 1;
        }

        boolean isResource(int number) {
            return isWithin(number, 0, resourceCount - 1);
        }

        /** Whether a resource has a method with a template or a locator. */
        boolean leadsDeeper(int resource) {
            for (int m = 0; m < methodCount; m++) {
                if (methods[m].owner == resource && methods[m].template != null) {
                    return true;
                }
            }
            for (int l = 0; l < locatorCount; l++) {
                if (locators[l].owner == resource) {
                    return true;
                }
            }
            return false;
        }

        int rootsWith(Template template) {
            int found = 0;
            for (int r = 0; r < resourceCount; r++) {
                if (roots[r] != null && roots[r].isSameAs(template)) {
                    found |= 1 << r;
                }
            }
            return found;
        }

        /** The methods of the classes that have no template. */
        int bareMethods(int classes) {
            int found = 0;
            for (int m = 0; m < methodCount; m++) {
                if (holds(classes, methods[m].owner) && methods[m].template == null) {
                    found |= 1 << m;
                }
            }
            return found;
        }

        int methodsWith(int classes, Template template) {
            int found = 0;
            for (int m = 0; m < methodCount; m++) {
                Method method = methods[m];
                if (holds(classes, method.owner) && method.template != null && method.template.isSameAs(template)) {
                    found |= 1 << m;
                }
            }
            return found;
        }

        int verbsAllowedBy(int candidates) {
            int verbs = 1 << OPTIONS;
            for (int m = 0; m < methodCount; m++) {
                if (holds(candidates, m)) {
                    verbs |= 1 << methods[m].verb;
                }
            }
            return holds(verbs, GET) ? verbs | 1 << HEAD : verbs;
        }

        int withVerb(int candidates, int verb) {
            int found = 0;
            for (int m = 0; m < methodCount; m++) {
                if (holds(candidates, m) && methods[m].verb == verb) {
                    found |= 1 << m;
                }
            }
            return found;
        }

        /** Those of the candidates that take a content type, all if it is 0. */
        int consuming(int candidates, int content) {
            int found = 0;
            for (int m = 0; m < methodCount; m++) {
                if (holds(candidates, m) && (content == 0 || covers(methods[m].consumes, content))) {
                    found |= 1 << m;
                }
            }
            return found;
        }
    }

    /** Stages 1 and 2: the way from a path to the candidates. */
    private static final class Route {
        final Fit fit = new Fit();
        /** Where in the path U begins. */
        int from = 0;
        int classes = 0;
        int candidates = 0;

        boolean findClasses(Catalog catalog, Outcome outcome) {
            from = 0;
            Template best = null;
            for (int r = 0; r < catalog.resourceCount; r++) {
                Template root = catalog.roots[r];
                if (root != null
                        && (best == null || root.isHeavierThan(best))
                        && fit.find(root, outcome.path, from)
                        && (outcome.path.endsAt(fit.rest) || catalog.leadsDeeper(r))) {
                    best = root;
                }
            }
            if (best == null) {
                return false;
            }
            follow(best, outcome);
            classes = catalog.rootsWith(best);
            return true;
        }

        boolean findCandidates(Catalog catalog, Outcome outcome) {
            // A hop takes at least the / with which its template begins, so there are never more.
            for (int hops = 0; hops <= MAX_TEXT; hops++) {
                candidates = outcome.path.endsAt(from) ? catalog.bareMethods(classes) : 0;
                if (candidates != 0) {
                    return true;
                }
                Template ofMethod = heaviestOfMethods(catalog, outcome.path);
                Locator locator = heaviestLocator(catalog, outcome.path);
                if (locator != null && (ofMethod == null || locator.template.isHeavierThan(ofMethod))) {
                    follow(locator.template, outcome);
                    classes = 1 << locator.target;
                    outcome.addHop(locator.target);
                } else if (ofMethod != null) {
                    follow(ofMethod, outcome);
                    candidates = catalog.methodsWith(classes, ofMethod);
                    return true;
                } else {
                    return false;
                }
            }
            return false;
        }

        private Template heaviestOfMethods(Catalog catalog, Text path) {
            Template best = null;
            for (int m = 0; m < catalog.methodCount; m++) {
                Template template = catalog.methods[m].template;
                if (template != null
                        && holds(classes, catalog.methods[m].owner)
                        && (best == null || template.isHeavierThan(best))
                        && fit.find(template, path, from)
                        && path.endsAt(fit.rest)) {
                    best = template;
                }
            }
            return best;
        }

        private Locator heaviestLocator(Catalog catalog, Text path) {
            Locator best = null;
            for (int l = 0; l < catalog.locatorCount; l++) {
                Locator locator = catalog.locators[l];
                if (holds(classes, locator.owner)
                        && (best == null || locator.template.isHeavierThan(best.template))
                        && fit.find(locator.template, path, from)) {
                    best = locator;
                }
            }
            return best;
        }

        /** A template that matches counts: its groups' texts are parameters, and U is its rest. */
        private void follow(Template template, Outcome outcome) {
            if (fit.find(template, outcome.path, from)) {
                for (int g = 0; g < fit.groupCount; g++) {
                    outcome.addParameter(fit.groupStart[g], fit.groupEnd[g]);
                }
                from = fit.rest;
            }
        }
    }

    /** The types that the next request accepts. */
    private static final class Accepted {
        /** Every worth is below this one. */
        static final int WORTHS = RANKS * (MAX_QUALITY + 1) * (MAX_QUALITY + 1) * RANKS;

        final int[] types = new int[MAX_ACCEPTED];
        final int[] qs = new int[MAX_ACCEPTED];
        int count = 0;

        void add(int type, int q) {
            types[count] = type;
            qs[count] = q;
            count++;
        }

        /** Who accepts nothing accepts all. */
        void addDefault() {
            if (count == 0) {
                add(ANY_TYPE, MAX_QUALITY);
            }
        }

        void clear() {
            count = 0;
        }

        /** The number of the accepted type with the greatest worth for a method, NONE if none meets. */
        int bestFor(Method method) {
            int best = NONE;
            int greatest = NONE;
            for (int k = 0; k < count; k++) {
                int worth = worth(k, method);
                if (worth > greatest) {
                    greatest = worth;
                    best = k;
                }
            }
            return best;
        }

        /** What is compared in turn, as digits of one number; NONE if the types do not meet. */
        int worth(int k, Method method) {
            int met = meeting(types[k], method.produces);
            if (met == NONE || qs[k] == 0) {
                return NONE;
            }
            int difference = Math.abs(rankOf(types[k]) - rankOf(method.produces));
            int worth = rankOf(met);
            worth = worth * (MAX_QUALITY + 1) + qs[k];
            worth = worth * (MAX_QUALITY + 1) + method.quality;
            return worth * RANKS + (RANKS - 1 - difference);
        }
    }

    /** The filters, and the two orders in which they run. */
    private static final class FilterChain {
        final Filter[] filters = new Filter[MAX_FILTERS];
        final int[] rising = new int[MAX_FILTERS];
        final int[] falling = new int[MAX_FILTERS];
        int count = 0;

        int add(Filter filter) {
            int riseAt = count;
            while (riseAt > 0 && filters[rising[riseAt - 1]].priority > filter.priority) {
                rising[riseAt] = rising[riseAt - 1];
                riseAt--;
            }
            int fallAt = count;
            while (fallAt > 0 && filters[falling[fallAt - 1]].priority < filter.priority) {
                falling[fallAt] = falling[fallAt - 1];
                fallAt--;
            }
            rising[riseAt] = count;
            falling[fallAt] = count;
            filters[count] = filter;
            count++;
            return count - 1;
        }
    }

    /** What is told of the latest request. */
    private static final class Outcome {
        /** The root's template, one for each hop, and the method's. */
        static final int MAX_PARAMETERS = MAX_GROUPS * (MAX_TEXT + 2);

        final Text path = new Text();
        final int[] hops = new int[MAX_TEXT];
        final int[] parameterStart = new int[MAX_PARAMETERS];
        final int[] parameterEnd = new int[MAX_PARAMETERS];
        final int[] ran = new int[MAX_FILTERS];
        int hopCount = 0;
        int parameterCount = 0;
        int ranCount = 0;
        /** The method with which the matching came to its end. */
        int matched = NONE;
        int invoked = NONE;
        int argument = 0;
        int allowed = 0;
        int produced = NONE;

        void begin(Text newPath) {
            path.copyFrom(newPath);
            hopCount = 0;
            parameterCount = 0;
            ranCount = 0;
            matched = NONE;
            invoked = NONE;
            argument = 0;
            allowed = 0;
            produced = NONE;
        }

        void addHop(int resource) {
            if (hopCount < hops.length) {
                hops[hopCount] = resource;
                hopCount++;
            }
        }

        void addParameter(int start, int end) {
            if (parameterCount < parameterStart.length) {
                parameterStart[parameterCount] = start;
                parameterEnd[parameterCount] = end;
                parameterCount++;
            }
        }

        void addRan(int filter) {
            if (ranCount < ran.length) {
                ran[ranCount] = filter;
                ranCount++;
            }
        }

        /** The decimal number that a parameter is, NONE if it is none or too great. */
        int numberIn(int parameter) {
            int start = parameterStart[parameter];
            int end = parameterEnd[parameter];
            long number = 0;
            for (int i = start; i < end; i++) {
                int digit = path.chars[i] - '0';
                if (!isWithin(digit, 0, 9)) {
                    return NONE;
                }
                // Zeros may lead, so the number of digits does not tell what is too great.
                number = Math.min(number * 10 + digit, MAX_ARGUMENT + 1L);
            }
            return start == end || number > MAX_ARGUMENT ? NONE : (int) number;
        }
    }
}
