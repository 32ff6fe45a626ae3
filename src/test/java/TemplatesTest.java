/** Terms: good templates, how a template matches, and its weight. */
public final class TemplatesTest {
    private static final int NONE = StageDispatcher.NONE;

    public static void main(String[] args) {
        Check check = new Check();
        atMost24(check);
        goodOnes(check);
        beginsWithSlash(check);
        piecesAlone(check);
        atLeastTwoPieces(check);
        atMost4Groups(check);
        lastCharacter(check);
        leftOvers(check);
        ways(check);
        leastTexts(check);
        rests(check);
        weights(check);
        greatestWeights(check);
        check.end();
    }

    private static void good(Check check, String... texts) {
        for (String text : texts) {
            check.same("good: " + text, Check.root(new StageDispatcher(), text), 0);
        }
    }

    private static void bad(Check check, String... texts) {
        for (String text : texts) {
            check.refused("not good: " + text, Check.root(new StageDispatcher(), text));
        }
    }

    /** "texts of at most 24 characters": a piece may end with the 24th, but not behind it. */
    private static void atMost24(Check check) {
        good(check, "/aaaaaaaaaaaaaaaaaaaaaaa", "/aaaaaaaaaaaaaaaaaaaa{d}", "/aaaaaaaaaaaaaaaaaaaaa{}",
                "/aaaaaaaaaaaaaaaaaaaa{r}", "/{r}{r}{r}{r}aaaaaaaaaaa", "///////////////////////a");
        bad(check, "/aaaaaaaaaaaaaaaaaaaaa{d", "/aaaaaaaaaaaaaaaaaaaaaa{", "/aaaaaaaaaaaaaaaaaaaaaa}",
                "/aaaaaaaaaaaaaaaaaaaaaa/", "/aaaaaaaaaaaaaaaaaaaaa{r", "////////////////////////");
        StageDispatcher d = Check.typed(new StageDispatcher(), "/aaaaaaaaaaaaaaaaaaaaa{d");
        check.no("the 25th character would close the group", d.put('}'));
        check.refused("it stays open", d.resource(true));
    }

    private static void goodOnes(Check check) {
        good(check, "/a", "/{}", "/{d}", "/{r}", "//a", "/a/b", "/a{}b", "/{}{}{}{}", "/{d}{r}{}/{d}", "/0", "/9z", "/d", "/r",
                "/d{d}r{r}", "////////////////////{r}");
    }

    /** "when it begins with /" */
    private static void beginsWithSlash(Check check) {
        bad(check, "", "a", "ab", "a/b", "{}", "{}a", "{}/a", "{r}/a", "{d}a", "0/a", "}/a", "{/a");
    }

    /** "and is made of pieces alone": a group is {} or {d} or {r}, and nothing else */
    private static void piecesAlone(Check check) {
        bad(check, "/{", "/}", "/{}}", "/{{}", "/{{}}", "/{x}", "/{dd}", "/{rr}", "/{dr}", "/{rd}", "/{d", "/{r", "/d}", "/r}",
                "/a{", "/a}", "/{/}", "/{1}", "/{0}", "/{}{", "/{a", "/}{", "/a}{b", "/{d{}", "/{d}}", "/{r{r}}", "/{}a}", "/{}{a}",
                "/{a}", "/{c}", "/{e}", "/{q}", "/{s}");
    }

    /** "at least two" */
    private static void atLeastTwoPieces(Check check) {
        bad(check, "/");
        good(check, "/a", "/0", "/{}", "/{d}", "/{r}");
    }

    /** "with at most 4 groups" */
    private static void atMost4Groups(Check check) {
        good(check, "/{}{}{}{}", "/{d}{d}{d}{d}", "/{r}{r}{r}{r}", "/{}/{d}/{r}/{}", "/{}a{}b{}c{}d", "/{}{d}{r}{}aaaaaaaaa");
        bad(check, "/{}{}{}{}{}", "/{d}{d}{d}{d}{d}", "/{r}{r}{r}{r}{r}", "/{}/{}/{}/{}/{}", "/{}{d}{r}{}{}", "/{}{}{}{}{}{}",
                "/{r}{r}{r}{r}{r}{r}{r}", "/{}{}{}{}{}{}{}{}{}{}{}", "/{}{}{}{}{}aaaaaaaaaaaaa");
    }

    /** "and its last character is not /" */
    private static void lastCharacter(Check check) {
        bad(check, "//", "///", "/a/", "/{}/", "/{r}/", "/a/b/", "/a//");
        good(check, "//a", "//{}", "///a", "/a/b");
    }

    /** What was typed before and is gone does not complete a text. */
    private static void leftOvers(Check check) {
        String[][] rows = {{"/{d}", "/{d"}, {"/{r}", "/{r"}, {"/{}", "/{"}, {"/ab", "/"}, {"/a/b", "/a/"}};
        for (String[] row : rows) {
            StageDispatcher d = new StageDispatcher();
            check.same("good: " + row[0], Check.root(d, row[0]), 0);
            check.refused("not good behind it: " + row[1], Check.root(d, row[1]));
        }
        StageDispatcher d = Check.serving("/a");
        check.same("a path behind a longer template", Check.get(d, "/a"), 200);
        Check.typed(d, "/ab").resource(false);
        check.same("a path behind a longer text", Check.get(d, "/a"), 200);
    }

    /** A row: the template of a root with a method without a template, a path, the parameters (null: no match). */
    private static void ways(Check check) {
        String[][] rows = {
            {"/a", "/a", ""}, {"/a", "/a/", ""}, {"/a", "/ab", null}, {"/a", "/", null}, {"/a", "/b", null},
            {"/a", "/a//", null}, {"/a", "/a/b", null}, {"/ab", "/a", null}, {"//a", "//a", ""}, {"//a", "/a", null},
            {"/{}", "/a", "a"}, {"/{}", "/", null}, {"/{}", "//", null}, {"/{}", "/ab1/", "ab1"}, {"/{}", "/a/b", null},
            {"/{d}", "/12", "12"}, {"/{d}", "/", null}, {"/{d}", "/1a", null}, {"/{d}", "/a1", null}, {"/{d}", "/1/", "1"},
            {"/{d}", "/09", "09"}, {"/{r}", "/", ""}, {"/{r}", "/a", "a"}, {"/{r}", "/a/b/", "a/b/"}, {"/{r}", "//", "/"},
            {"/{}{}", "/abc", "ab,c"}, {"/{}{}", "/a", null}, {"/{d}{}", "/123", "12,3"}, {"/{d}{}", "/12a3", "12,a3"},
            {"/{}{d}", "/a12", "a1,2"}, {"/{}{d}", "/a12b", null}, {"/{r}{}", "/a/bc", "a/b,c"}, {"/{r}{}", "/a/", ",a"},
            {"/{r}{r}", "/a/b", "a/b,"}, {"/{r}{d}", "/1/23", "1/2,3"}, {"/{r}a", "/aaba", "aab"}, {"/{r}a", "/aab", null},
            {"/{}a{}", "/xayaz", "xay,z"}, {"/{r}{d}x{}", "/a1x2x34x5", "a1x2x3,4,5"}, {"/{}b", "/bb", "b"},
            {"/{}b", "/b", null}, {"/{r}b", "/b", ""}, {"/{}/{r}", "/a/b/c", "a,b/c"}, {"/{}/{r}", "/a/", "a,"},
            {"/{}/{r}", "/a", null}, {"/{r}/{}", "/a/b/c", "a/b,c"}, {"/{r}/{}", "/a/b/c/", "a/b,c"},
            {"/{}{}{}{}", "/abcdef", "abc,d,e,f"}, {"/{r}/a{r}", "/a/a/ab", "a/a,b"},
            {"/{r}aaaaaaaaaaaaaaaaaaa", "/aaaaaaaaaaaaaaaaaaaaaaa", "aaaa"},
            {"/{}", "/abcdefghijklmnopqrstuvw", "abcdefghijklmnopqrstuvw"},
            {"/{r}a{r}b", "/ab/ab/c", null}, {"/{r}a{r}b", "/ab/abb", "ab/,b"}};
        for (String[] row : rows) {
            StageDispatcher d = new StageDispatcher();
            Check.root(d, row[0]);
            Check.method(d, 0, 0, "");
            check.same(row[0] + " with " + row[1], Check.get(d, row[1]), row[2] == null ? 404 : 200);
            check.parameters(row[0] + " with " + row[1], d, row[2] == null ? "" : row[2]);
            // A method's template matches what is left in the same way.
            StageDispatcher e = new StageDispatcher();
            Check.root(e, "/0");
            Check.method(e, 0, 0, row[0]);
            if (row[1].length() <= 22) {
                check.same("/0, " + row[0] + " with " + row[1], Check.get(e, "/0" + row[1]), row[2] == null ? 404 : 200);
                check.parameters("/0, " + row[0] + " with " + row[1], e, row[2] == null ? "" : row[2]);
            }
        }
    }

    /**
     * "the text of {} is one or more characters without /; that of {d} is one or more digits; that
     * of {r} is any characters, also none, also /"
     */
    private static void leastTexts(Check check) {
        String[][] rows = {
            {"/a{}b", "/ab", null}, {"/a{}b", "/axb", "x"}, {"/a{}b", "/a/b", null}, {"/a{}b", "/a0b", "0"},
            {"/a{d}b", "/ab", null}, {"/a{d}b", "/a0b", "0"}, {"/a{d}b", "/a9b", "9"}, {"/a{d}b", "/aab", null},
            {"/a{d}b", "/azb", null}, {"/a{d}b", "/a/b", null}, {"/a{d}b", "/a0123456789b", "0123456789"},
            {"/a{d}b", "/a01x23b", null}, {"/a{r}b", "/ab", ""}, {"/a{r}b", "/a/b", "/"}, {"/a{r}b", "/a///b", "///"},
            {"/a{r}b", "/axb", "x"}, {"/a{r}b", "/abb", "b"}, {"/{r}{r}{r}{r}", "/", ",,,"}, {"/{}{}{}{}", "/abc", null},
            {"/{}{}{}{}", "/abcd", "a,b,c,d"}, {"/{d}{d}{d}{d}", "/123", null}, {"/{d}{d}{d}{d}", "/1234", "1,2,3,4"}};
        for (String[] row : rows) {
            StageDispatcher d = Check.serving(row[0]);
            check.same(row[0] + " with " + row[1], Check.get(d, row[1]), row[2] == null ? 404 : 200);
            check.parameters(row[0] + " with " + row[1], d, row[2] == null ? "" : row[2]);
        }
    }

    /**
     * "then a REST that is empty or begins with /": a row is a locator's template, the text that it
     * is to match, and the rest (null: no match).
     */
    private static void rests(Check check) {
        String[][] rows = {
            {"/a", "", null}, {"/a", "/", null}, {"/a", "/a", ""}, {"/a", "/a/", "/"}, {"/a", "/a//", "//"}, {"/a", "/a/b", "/b"},
            {"/a", "/ab", null}, {"/{}", "/ab/c", "/c"}, {"/{}", "/ab", ""}, {"/{d}", "/1/2", "/2"}, {"/{d}", "/1a/2", null},
            {"/{r}", "/a/b", ""}, {"/{r}", "/", ""}, {"/{r}", "", null}, {"/{r}a", "/a/ba/b", "/b"}, {"/{r}a", "/a/ba", ""},
            {"/{r}/a", "/a/a/a/b", "/b"}, {"/{r}{}", "/a/", "/"}, {"/{r}{d}", "/1/a", "/a"}, {"/{r}{d}", "/1/a2", ""}};
        for (String[] row : rows) {
            StageDispatcher d = Check.rooted("/0");
            d.resource(false);
            Check.locator(d, 0, row[0], 1);
            Check.method(d, 1, 0, "/{r}");
            String what = row[0] + " with " + row[1];
            int status = Check.get(d, "/0" + row[1]);
            check.text(what + ": hops", Check.hops(d), row[2] == null ? "" : "1");
            check.same(what, status, row[2] == null || row[2].isEmpty() ? 404 : 200);
            if (status == 200) {
                check.yes(what + ": its rest is " + row[2], ("," + Check.parameters(d)).endsWith("," + row[2].substring(1)));
            }
        }
    }

    /** A row: the heavier template, the lighter one, a path that both match. */
    private static void weights(Check check) {
        String[][] rows = {
            {"/aa", "/{}", "/aa"}, {"/a{}", "/{d}{r}", "/a1"}, {"/{}/a", "/{r}", "/a/a"}, {"/a{}", "/{}{}{}{}", "/abcd"},
            {"/{}{}", "/{r}", "/ab"}, {"/{}{}", "/{d}", "/12"}, {"/{d}{d}", "/{d}{}", "/12"}, {"/{d}", "/{}", "/1"},
            {"/{r}", "/{}", "/1"}, {"/{r}{d}", "/{}{d}", "/12"}, {"/{}{}{}", "/{d}{d}", "/123"}, {"/ab", "/a{}", "/ab"},
            {"/{r}{r}{r}{r}", "/{d}{d}{d}", "/123"}, {"/{}{d}{}", "/{}{}{}", "/123"}};
        for (String[] row : rows) {
            heavier(check, row[0], row[1], row[2], 0);
            heavier(check, row[1], row[0], row[2], 1);
        }
        // Equally heavy: the one with the lowest number.
        heavier(check, "/{d}", "/{r}", "/1", 0);
        heavier(check, "/{r}", "/{d}", "/1", 0);
        heavier(check, "/a{}", "/{}b", "/ab", 0);
        heavier(check, "/{}b", "/a{}", "/ab", 0);
        heavier(check, "/{}{d}", "/{d}{}", "/12", 0);
        heavier(check, "/a{r}", "/{d}a", "/a", 0);
    }

    /** The numbers compared do not run into one another, be they as great as they can be. */
    private static void greatestWeights(Check check) {
        String[][] rows = {
            {"/aaaaaaaaaaaa{}", "/aaaaaaaaaaa{r}{r}{r}{r}", "/aaaaaaaaaaaab"},
            {"/{}a", "/{d}{r}{r}{r}", "/1a"}, {"/{}{}{}{}", "/{d}{d}{d}", "/1234"}, {"/{}{}", "/{d}", "/12"},
            {"/{d}{}{}{}", "/{}{}{}{}", "/1234"}, {"/{d}{d}{d}{d}", "/{d}{d}{d}{}", "/1234"},
            {"/aaaaaaaaaaaaaaaaaaaaa", "/aaaaaaaaaaaaaaaaaaaa{}", "/aaaaaaaaaaaaaaaaaaaaa"}};
        for (String[] row : rows) {
            check.same(row[1] + " matches " + row[2], Check.get(Check.serving(row[1]), row[2]), 200);
            heavier(check, row[0], row[1], row[2], 0);
            heavier(check, row[1], row[0], row[2], 1);
        }
    }

    /** Of two templates the one with this number counts, be they those of roots, methods or locators. */
    private static void heavier(Check check, String first, String second, String path, int due) {
        StageDispatcher d = new StageDispatcher();
        Check.root(d, first);
        Check.root(d, second);
        Check.method(d, 0, 0, "");
        Check.method(d, 1, 0, "");
        Check.get(d, path);
        check.same("roots " + first + " and " + second, d.invoked(), due);

        StageDispatcher e = new StageDispatcher();
        Check.root(e, "/0");
        Check.method(e, 0, 0, first);
        Check.method(e, 0, 0, second);
        Check.get(e, "/0" + path);
        check.same("methods " + first + " and " + second, e.invoked(), due);

        StageDispatcher f = new StageDispatcher();
        Check.root(f, "/0");
        f.resource(false);
        f.resource(false);
        Check.locator(f, 0, first, 1);
        Check.locator(f, 0, second, 2);
        Check.get(f, "/0" + path);
        check.hops("locators " + first + " and " + second, f, due + 1);
    }
}
