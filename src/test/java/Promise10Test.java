/** Promise 10: request. How it goes on: see FlowTest. */
public final class Promise10Test {
    private static final int NONE = StageDispatcher.NONE;

    public static void main(String[] args) {
        Check check = new Check();
        usesTheBuffer(check);
        contents(check);
        headers(check);
        beginsWithSlash(check);
        holdsABrace(check);
        verbs(check);
        wrongContents(check);
        whatIsToldStays(check);
        whatIsAcceptedStays(check);
        acceptedNoMore(check);
        shortestAndLongest(check);
        afresh(check);
        theLastOf512(check);
        check.end();
    }

    /** "Uses the buffer" */
    private static void usesTheBuffer(Check check) {
        StageDispatcher d = Check.serving("/a");
        check.same("one that is not refused", Check.get(d, "/a"), 200);
        check.refused("the buffer was emptied", d.request(0, 0, 0));
        check.refused("one that is", Check.request(d, 6, "/a"));
        check.refused("the buffer was emptied", d.request(0, 0, 0));
        check.refused("one that is, for its path", Check.get(d, "a/"));
        check.same("the buffer was emptied", Check.get(d, "/a"), 200);
    }

    /** "a content type (a concrete one, or 0 for no content type)" */
    private static void contents(Check check) {
        for (int t = 1; t <= 3; t++) {
            for (int s = 1; s <= 3; s++) {
                StageDispatcher d = Check.rooted("/a");
                int content = 16 * t + s;
                d.method(0, 0, content, 17, 0);
                check.same("content " + content, Check.typed(d, "/a").request(0, content, 0), 200);
                check.same("another content", Check.typed(d, "/a").request(0, content == 17 ? 18 : 17, 0), 415);
                check.same("none", Check.typed(d, "/a").request(0, 0, 0), 200);
            }
        }
    }

    private static void headers(Check check) {
        for (int header : new int[] {Integer.MIN_VALUE, -1, 0, 1, 100, Integer.MAX_VALUE}) {
            check.same("any header", Check.sent(Check.serving("/a"), "/a", header), 200);
        }
    }

    /** "Refused .. when the buffer does not begin with /": also when it is empty */
    private static void beginsWithSlash(Check check) {
        StageDispatcher d = Check.serving("/{r}");
        for (String text : new String[] {"", "a", "0", "a/", "a/a", "0/", "aaaaaaaaaaaaaaaaaaaaaaa/"}) {
            check.refused("the path " + text, Check.get(d, text));
        }
        check.same("the path /", Check.get(d, "/"), 200);
        check.same("the path //", Check.get(d, "//"), 200);
    }

    /** "or holds { or }": at each place of a text of 24 characters */
    private static void holdsABrace(Check check) {
        String text = "/aaaaaaaaaaaaaaaaaaaaaaa";
        for (char brace : new char[] {'{', '}'}) {
            for (int place = 0; place < 24; place++) {
                StageDispatcher d = Check.serving("/{r}");
                String wrong = text.substring(0, place) + brace + text.substring(place + 1);
                check.refused("the path " + wrong, Check.get(d, wrong));
                check.same("the path without it", Check.get(d, text), 200);
            }
        }
        StageDispatcher d = Check.serving("/a{}");
        check.refused("a template is no path", Check.get(d, "/a{}"));
        check.same("braces that were typed before do not matter", Check.get(d, "/ab"), 200);
    }

    /** "there is no such verb" */
    private static void verbs(Check check) {
        StageDispatcher d = Check.serving("/a");
        check.refused("verb -1", Check.request(d, -1, "/a"));
        check.refused("verb 6", Check.request(d, 6, "/a"));
        for (int far : Check.FAR) {
            check.refused("verb " + far, Check.request(d, far, "/a"));
        }
        for (int verb = 0; verb <= 5; verb++) {
            int due = verb == 0 || verb == 4 ? 200 : verb == 5 ? 204 : 405;
            check.same("verb " + verb, Check.request(d, verb, "/a"), due);
        }
    }

    /** "or content is not as said": no type, or one that is not concrete */
    private static void wrongContents(Check check) {
        for (int content = -70; content <= 300; content++) {
            boolean concrete = content >= 16 && content < 64 && content % 16 >= 1 && content % 16 <= 3;
            StageDispatcher d = Check.serving("/a");
            check.same("content " + content, Check.typed(d, "/a").request(0, content, 0),
                    content == 0 || concrete ? 200 : NONE);
        }
        for (int far : Check.FAR) {
            check.refused("content " + far, Check.typed(Check.serving("/a"), "/a").request(0, far, 0));
        }
    }

    /** "then .. all that is told of the latest request, stays" */
    private static void whatIsToldStays(Check check) {
        StageDispatcher d = Check.rooted("/{d}");
        d.resource(false);
        Check.locator(d, 0, "/{}", 1);
        d.method(1, 0, 0, 18, 0);
        d.detail(0, 0, 0, 0);
        d.filter(0, 0, 2, 0, 0);
        check.same("a request", Check.get(d, "/12/a"), 200);
        String told = Check.told(d);
        check.text("it", told, "invoked 0, argument 12, allowed 49, produced 18, hops (1), ran (0), parameters (2: 12,a)");
        check.refused("an empty buffer", d.request(0, 0, 0));
        check.text("behind an empty buffer", Check.told(d), told);
        check.refused("no / at the beginning", Check.get(d, "12/a"));
        check.text("behind no / at the beginning", Check.told(d), told);
        check.refused("a brace", Check.get(d, "/99/z}"));
        check.text("behind a brace", Check.told(d), told);
        check.refused("verb 6", Check.request(d, 6, "/99/z"));
        check.text("behind verb 6", Check.told(d), told);
        check.refused("content 48", Check.typed(d, "/99/z").request(0, 48, 0));
        check.text("behind content 48", Check.told(d), told);
    }

    /** "then what is accepted .. stays" */
    private static void whatIsAcceptedStays(Check check) {
        String[] paths = {"", "a", "/{", "/a", "/a"};
        int[] verbs = {0, 0, 0, -1, 0};
        int[] contents = {0, 0, 0, 0, 16};
        for (int i = 0; i < paths.length; i++) {
            StageDispatcher d = Check.rooted("/a");
            d.method(0, 0, 0, 0, 0);
            d.accept(35, 7);
            check.refused("refused", Check.typed(d, paths[i]).request(verbs[i], contents[i], 0));
            Check.get(d, "/a");
            check.same("accepted before it", d.produced(), 35);
        }
    }

    /** "what was accepted is accepted no more" */
    private static void acceptedNoMore(Check check) {
        StageDispatcher d = Check.serving("/a");
        d.accept(35, 7);
        Check.get(d, "/a");
        check.same("accepted", d.produced(), 35);
        Check.get(d, "/a");
        check.same("no more", d.produced(), 255);
    }

    private static void shortestAndLongest(Check check) {
        StageDispatcher d = Check.serving("/{}");
        check.same("the path / alone", Check.get(d, "/"), 404);
        check.same("a path of 24 characters", Check.get(d, "/abcdefghijklmnopqrstuvw"), 200);
        check.parameters("a path of 24 characters", d, "abcdefghijklmnopqrstuvw");
        check.same("a path of 24 characters, / the last", Check.get(d, "/abcdefghijklmnopqrstuv/"), 200);
        check.parameters("a path of 24 characters, / the last", d, "abcdefghijklmnopqrstuv");
        check.same("a short one behind it", Check.get(d, "/z"), 200);
        check.parameters("a short one behind it", d, "z");
    }

    /** Nothing is left of an earlier request. */
    private static void afresh(Check check) {
        StageDispatcher d = Check.rooted("/{d}");
        Check.locator(d, 0, "/{}", 0);
        Check.method(d, 0, 0, "");
        d.detail(0, 0, 0, 0);
        d.filter(0, 0, 1, 1, 0);
        String nothing = Check.told(new StageDispatcher());
        check.same("a request", Check.get(d, "/12/a"), 200);
        check.same("another", Check.get(d, "/x"), 404);
        check.text("nothing is left", Check.told(d), nothing);
        d.filter(0, 0, 0, 5, 503);
        check.same("a request", Check.get(d, "/12/a"), 200);
        check.same("one that a filter ends at once", Check.sent(d, "/12/a", 5), 503);
        check.ran("the filter that did", d, 1);
        check.same("invoked", d.invoked(), NONE);
        check.same("argument", d.argument(), 0);
        check.same("allowed", d.allowed(), 0);
        check.same("produced", d.produced(), NONE);
        check.hops("none", d);
        check.same("no parameters", d.parameter(0, NONE), NONE);
    }

    /** "An object is used for at most 512 calls": the last ones are answered like all others. */
    private static void theLastOf512(Check check) {
        StageDispatcher d = Check.serving("/a");
        for (int calls = 4; calls < 511; calls += 3) {
            check.same("a request after " + calls + " calls", Check.get(d, "/a"), 200);
        }
        check.same("the last call", d.invoked(), 0);
    }
}
