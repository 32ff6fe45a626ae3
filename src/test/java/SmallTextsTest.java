import java.util.ArrayList;
import java.util.List;

/**
 * Terms: templates, and how they match, for all small texts. The ways in which a template matches are
 * all listed, and the one that counts is chosen by the document's words.
 */
public final class SmallTextsTest {
    private static final String CHARACTERS = "/adr0{}";
    private static final int LONGEST_TEXT = 6;
    private static final String[] PIECES = {"a", "1", "/", "{}", "{d}", "{r}"};
    private static final int MOST_PIECES = 4;
    private static final String PATH_CHARACTERS = "a1/";
    private static final int LONGEST_PATH = 6;
    /** So many that an object is not used for more than 512 calls. */
    private static final int PATHS_OF_AN_OBJECT = 8;

    /** A way to match: the texts of the groups, and the rest. */
    private record Way(List<String> texts, String rest) {
        /** Whether the first group's text is longer, or the second's where those are as long, and so on. */
        boolean countsBefore(Way other) {
            for (int g = 0; g < texts.size(); g++) {
                int length = texts.get(g).length();
                int otherLength = other.texts.get(g).length();
                if (length != otherLength) {
                    return length > otherLength;
                }
            }
            return false;
        }
    }

    private final Check check = new Check();
    private final List<String> paths = new ArrayList<>();
    private int templates = 0;
    private int matches = 0;

    public static void main(String[] args) {
        SmallTextsTest test = new SmallTextsTest();
        test.goodTexts("");
        test.addPaths("/");
        test.addTemplates(new ArrayList<>(List.of("/")));
        System.out.println(test.templates + " templates, " + test.paths.size() + " texts, " + test.matches + " matches");
        test.check.end();
    }

    private void goodTexts(String text) {
        int number = Check.root(new StageDispatcher(), text);
        check.same("good: " + text, number, isGood(text) ? 0 : StageDispatcher.NONE);
        if (text.length() < LONGEST_TEXT) {
            for (int i = 0; i < CHARACTERS.length(); i++) {
                goodTexts(text + CHARACTERS.charAt(i));
            }
        }
    }

    private static boolean isGood(String text) {
        int pieces = 0;
        int groups = 0;
        String left = text;
        while (!left.isEmpty()) {
            boolean group = left.startsWith("{}") || left.startsWith("{d}") || left.startsWith("{r}");
            if (!group && (left.startsWith("{") || left.startsWith("}"))) {
                return false;
            }
            left = left.substring(group ? left.indexOf('}') + 1 : 1);
            pieces++;
            groups += group ? 1 : 0;
        }
        return text.startsWith("/") && pieces >= 2 && groups <= 4 && !text.endsWith("/");
    }

    private void addPaths(String path) {
        paths.add(path);
        if (path.length() < LONGEST_PATH) {
            for (int i = 0; i < PATH_CHARACTERS.length(); i++) {
                addPaths(path + PATH_CHARACTERS.charAt(i));
            }
        }
    }

    private void addTemplates(List<String> pieces) {
        if (isGood(String.join("", pieces))) {
            templates++;
            matchAll(pieces);
        }
        if (pieces.size() <= MOST_PIECES) {
            for (String piece : PIECES) {
                pieces.add(piece);
                addTemplates(pieces);
                pieces.remove(pieces.size() - 1);
            }
        }
    }

    private void matchAll(List<String> pieces) {
        String template = String.join("", pieces);
        StageDispatcher root = null;
        StageDispatcher method = null;
        StageDispatcher locator = null;
        for (int i = 0; i < paths.size(); i++) {
            if (i % PATHS_OF_AN_OBJECT == 0) {
                root = Check.serving(template);
                method = Check.rooted("/0");
                Check.method(method, 0, 0, template);
                locator = Check.rooted("/0");
                locator.resource(false);
                Check.locator(locator, 0, template, 1);
                Check.method(locator, 1, 0, "/{r}");
            }
            Way way = wayThatCounts(pieces, paths.get(i));
            matches += way == null ? 0 : 1;
            asRootOrMethod(root, "root " + template, paths.get(i), way);
            asRootOrMethod(method, "method " + template, "/0" + paths.get(i), way);
            asLocator(locator, "locator " + template, "/0" + paths.get(i), way);
        }
    }

    private void asRootOrMethod(StageDispatcher d, String what, String path, Way way) {
        boolean due = way != null && (way.rest.isEmpty() || way.rest.equals("/"));
        check.same(what + " with " + path, Check.get(d, path), due ? 200 : 404);
        check.parameters(what + " with " + path, d, due ? String.join(",", way.texts) : "");
    }

    /** Behind the hop a method takes the rest as another parameter, if it is not empty. */
    private void asLocator(StageDispatcher d, String what, String path, Way way) {
        int status = Check.get(d, path);
        check.text(what + " with " + path, Check.hops(d), way == null ? "" : "1");
        if (way == null) {
            check.same(what + " with " + path, status, 404);
            return;
        }
        List<String> due = new ArrayList<>(way.texts);
        if (!way.rest.isEmpty()) {
            due.add(way.rest.substring(1));
        }
        check.same(what + " with " + path, status, way.rest.isEmpty() ? 404 : 200);
        check.parameters(what + " with " + path, d, String.join(",", due));
    }

    private static Way wayThatCounts(List<String> pieces, String text) {
        List<Way> ways = new ArrayList<>();
        addWays(ways, pieces, 0, text, new ArrayList<>());
        Way best = null;
        for (Way way : ways) {
            if (best == null || way.countsBefore(best)) {
                best = way;
            }
        }
        return best;
    }

    /** Adds all ways in which the pieces from one on match a text. */
    private static void addWays(List<Way> ways, List<String> pieces, int p, String text, List<String> before) {
        if (p == pieces.size()) {
            if (text.isEmpty() || text.startsWith("/")) {
                ways.add(new Way(List.copyOf(before), text));
            }
            return;
        }
        String piece = pieces.get(p);
        for (int length = 0; length <= text.length(); length++) {
            String own = text.substring(0, length);
            if (isTextOf(piece, own)) {
                boolean group = piece.startsWith("{");
                if (group) {
                    before.add(own);
                }
                addWays(ways, pieces, p + 1, text.substring(length), before);
                if (group) {
                    before.remove(before.size() - 1);
                }
            }
        }
    }

    private static boolean isTextOf(String piece, String text) {
        switch (piece) {
            case "{}":
                return !text.isEmpty() && text.indexOf('/') < 0;
            case "{d}":
                return !text.isEmpty() && text.chars().allMatch(c -> c >= '0' && c <= '9');
            case "{r}":
                return true;
            default:
                return text.equals(piece);
        }
    }
}
