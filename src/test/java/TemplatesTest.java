/** Terms: good templates, how a template matches, and its weight. */
public final class TemplatesTest {
    private static final int NONE = StageDispatcher.NONE;

    public static void main(String[] args) {
        Check check = new Check();
        goodOnes(check);
        ways(check);
        weights(check);
        check.end();
    }

    private static void goodOnes(Check check) {
        String[] good = {
            "/a", "/{}", "/{d}", "/{r}", "//a", "/a/b", "/a{}b", "/{}{}{}{}", "/{d}{r}{}/{d}", "/0", "/9z",
            "/abcdefghijklmnopqrstuvw", "/a/{r}{r}{r}{r}aaaaaaaaa", "////////////////////{r}"};
        String[] bad = {
            "", "/", "//", "a", "a/b", "{}", "{}/a", "/a/", "/{}/", "/{", "/}", "/{}}", "/{{}", "/{{}}", "/{x}",
            "/{dd}", "/{dr}", "/{d", "/{r", "/d}", "/a{", "/a}", "/{}{}{}{}{}", "/{/}", "/{1}", "/{}{", "}/a", "/{}{d}{r}{}{}"};
        for (String text : good) {
            check.same("good: " + text, Check.root(new StageDispatcher(), text), 0);
        }
        for (String text : bad) {
            check.same("not good: " + text, Check.root(new StageDispatcher(), text), NONE);
        }
    }

    /** A row: the template of a root with a method without a template, a path, the parameters (null: no match). */
    private static void ways(Check check) {
        String[][] rows = {
            {"/a", "/a", ""}, {"/a", "/a/", ""}, {"/a", "/ab", null}, {"/a", "/", null}, {"/a", "/b", null},
            {"/a", "/a//", null}, {"/a", "/a/b", null}, {"/ab", "/a", null}, {"//a", "//a", ""}, {"//a", "/a", null},
            {"/{}", "/a", "a"}, {"/{}", "/", null}, {"/{}", "//", null}, {"/{}", "/ab1/", "ab1"}, {"/{}", "/a/b", null},
            {"/{d}", "/12", "12"}, {"/{d}", "/", null}, {"/{d}", "/1a", null}, {"/{d}", "/a1", null}, {"/{d}", "/1/", "1"},
            {"/{d}", "/09", "09"}, {"/{r}", "/", ""}, {"/{r}", "/a", "a"}, {"/{r}", "/a/b/", "a/b/"}, {"/{r}", "//", "/"},
            {"/{}{}", "/abc", "ab,c"}, {"/{}{}", "/a", null}, {"/{d}{}", "/123", "12,3"}, {"/{d}{}", "/12a3", "12,a3"},
            {"/{}{d}", "/a12", "a1,2"}, {"/{}{d}", "/a12b", null}, {"/{r}{}", "/a/bc", "a/b,c"}, {"/{r}{}", "/a/", ",a"},
            {"/{r}{r}", "/a/b", "a/b,"}, {"/{r}{d}", "/1/23", "1/2,3"}, {"/{r}a", "/aaba", "aab"}, {"/{r}a", "/aab", null},
            {"/{}a{}", "/xayaz", "xay,z"}, {"/{r}{d}x{}", "/a1x2x34x5", "a1x2x3,4,5"}, {"/{}b", "/bb", "b"},
            {"/{}b", "/b", null}, {"/{r}b", "/b", ""}, {"/{}/{r}", "/a/b/c", "a,b/c"}, {"/{}/{r}", "/a/", "a,"},
            {"/{}/{r}", "/a", null}, {"/{r}/{}", "/a/b/c", "a/b,c"}, {"/{r}/{}", "/a/b/c/", "a/b,c"},
            {"/{}{}{}{}", "/abcdef", "abc,d,e,f"}, {"/{r}/a{r}", "/a/a/ab", "a/a,b"},
            {"/{r}aaaaaaaaaaaaaaaaaaa", "/aaaaaaaaaaaaaaaaaaaaaaa", "aaaa"},
            {"/{}", "/abcdefghijklmnopqrstuvw", "abcdefghijklmnopqrstuvw"},
            {"/{r}a{r}b", "/ab/ab/c", null}, {"/{r}a{r}b", "/ab/abb", "ab/,b"}};
        for (String[] row : rows) {
            StageDispatcher d = new StageDispatcher();
            Check.root(d, row[0]);
            Check.method(d, 0, 0, "");
            check.same(row[0] + " with " + row[1], Check.get(d, row[1]), row[2] == null ? 404 : 200);
            check.parameters(row[0] + " with " + row[1], d, row[2] == null ? "" : row[2]);
            // A method's template matches what is left in the same way.
            StageDispatcher e = new StageDispatcher();
            Check.root(e, "/0");
            Check.method(e, 0, 0, row[0]);
            if (row[1].length() <= 22) {
                check.same("/0, " + row[0] + " with " + row[1], Check.get(e, "/0" + row[1]), row[2] == null ? 404 : 200);
                check.parameters("/0, " + row[0] + " with " + row[1], e, row[2] == null ? "" : row[2]);
            }
        }
    }

    /** A row: the heavier template, the lighter one, a path that both match. */
    private static void weights(Check check) {
        String[][] rows = {
            {"/aa", "/{}", "/aa"}, {"/a{}", "/{d}{r}", "/a1"}, {"/{}/a", "/{r}", "/a/a"}, {"/a{}", "/{}{}{}{}", "/abcd"},
            {"/{}{}", "/{r}", "/ab"}, {"/{}{}", "/{d}", "/12"}, {"/{d}{d}", "/{d}{}", "/12"}, {"/{d}", "/{}", "/1"},
            {"/{r}", "/{}", "/1"}, {"/{r}{d}", "/{}{d}", "/12"}, {"/{}{}{}", "/{d}{d}", "/123"}, {"/ab", "/a{}", "/ab"},
            {"/{r}{r}{r}{r}", "/{d}{d}{d}", "/123"}, {"/{}{d}{}", "/{}{}{}", "/123"}};
        for (String[] row : rows) {
            heavier(check, row[0], row[1], row[2], 0);
            heavier(check, row[1], row[0], row[2], 1);
        }
        // Equally heavy: the one with the lowest number.
        heavier(check, "/{d}", "/{r}", "/1", 0);
        heavier(check, "/{r}", "/{d}", "/1", 0);
        heavier(check, "/a{}", "/{}b", "/ab", 0);
        heavier(check, "/{}b", "/a{}", "/ab", 0);
        heavier(check, "/{}{d}", "/{d}{}", "/12", 0);
        heavier(check, "/a{r}", "/{d}a", "/a", 0);
    }

    /** Of two templates the one with this number counts, be they those of roots, methods or locators. */
    private static void heavier(Check check, String first, String second, String path, int due) {
        StageDispatcher d = new StageDispatcher();
        Check.root(d, first);
        Check.root(d, second);
        Check.method(d, 0, 0, "");
        Check.method(d, 1, 0, "");
        Check.get(d, path);
        check.same("roots " + first + " and " + second, d.invoked(), due);

        StageDispatcher e = new StageDispatcher();
        Check.root(e, "/0");
        Check.method(e, 0, 0, first);
        Check.method(e, 0, 0, second);
        Check.get(e, "/0" + path);
        check.same("methods " + first + " and " + second, e.invoked(), due);

        StageDispatcher f = new StageDispatcher();
        Check.root(f, "/0");
        f.resource(false);
        f.resource(false);
        Check.locator(f, 0, first, 1);
        Check.locator(f, 0, second, 2);
        Check.get(f, "/0" + path);
        check.hops("locators " + first + " and " + second, f, due + 1);
    }
}
