/** Promise 12: argument, and step 4 of a request. */
public final class Promise12Test {
    private static final int NONE = StageDispatcher.NONE;

    public static void main(String[] args) {
        Check check = new Check();
        numbers(check);
        tooGreat(check);
        noNumbers(check);
        which(check);
        noSuchParameter(check);
        itMayHaveThrown(check);
        convertsNothing(check);
        notInvoked(check);
        check.end();
    }

    /** "it is a decimal number from 0 to 2147483647 (at least one digit, nothing but digits)" */
    private static void numbers(Check check) {
        converted(check, "0", 0);
        converted(check, "1", 1);
        converted(check, "7", 7);
        converted(check, "9", 9);
        converted(check, "10", 10);
        converted(check, "00000000000000000000000", 0);
        converted(check, "00000000000000000000012", 12);
        converted(check, "1000000000", 1000000000);
        converted(check, "2147483646", 2147483646);
        converted(check, "2147483647", 2147483647);
        converted(check, "000000000002147483647", 2147483647);
        converted(check, "00000000000002147483647", 2147483647);
    }

    /** Among them those that wrap around to small ones in an int and in a long. */
    private static void tooGreat(Check check) {
        converted(check, "2147483648", NONE);
        converted(check, "2147483650", NONE);
        converted(check, "2147483657", NONE);
        converted(check, "4294967295", NONE);
        converted(check, "4294967296", NONE);
        converted(check, "4294967303", NONE);
        converted(check, "9999999999", NONE);
        converted(check, "10000000000", NONE);
        converted(check, "21474836470", NONE);
        converted(check, "9223372036854775807", NONE);
        converted(check, "9223372036854775808", NONE);
        converted(check, "18446744073709551615", NONE);
        converted(check, "18446744073709551616", NONE);
        converted(check, "18446744073709551623", NONE);
        converted(check, "36893488147419103232", NONE);
        converted(check, "99999999999999999999999", NONE);
        converted(check, "10000000000000000000000", NONE);
        converted(check, "00000000000002147483648", NONE);
    }

    private static void noNumbers(Check check) {
        converted(check, "", NONE);
        converted(check, "x", NONE);
        converted(check, "1x", NONE);
        converted(check, "x1", NONE);
        converted(check, "1x1", NONE);
        converted(check, "0x10", NONE);
        converted(check, "/", NONE);
        converted(check, "1/", NONE);
        converted(check, "/1", NONE);
        converted(check, "1/2", NONE);
        converted(check, "9999999999x", NONE);
        converted(check, "1e3", NONE);
    }

    /** "otherwise thrown 8" */
    private static void converted(Check check, String text, int due) {
        StageDispatcher d = Check.serving("/{r}");
        d.detail(0, 0, 0, 0);
        check.same("a request with " + text, Check.get(d, "/" + text), due == NONE ? 404 : 200);
        check.same("the argument of " + text, d.argument(), due == NONE ? 0 : due);
        check.same("invoked with " + text, d.invoked(), due == NONE ? NONE : 0);
        check.same("the matching came to its end with " + text, d.produced(), 255);
        d.mapper(4, 444);
        check.same("thrown 8 is mapped: " + text, Check.get(d, "/" + text), due == NONE ? 444 : 200);
    }

    private static void which(Check check) {
        StageDispatcher d = Check.rooted("/{}");
        Check.method(d, 0, 0, "/{}/{}");
        int[] due = {1, 22, 333};
        for (int k = 0; k < due.length; k++) {
            d.detail(0, k, 0, 0);
            check.same("a request", Check.get(d, "/1/22/333"), 200);
            check.same("parameter " + k, d.argument(), due[k]);
        }
        d.detail(0, 1, 0, 0);
        check.same("what the others are does not matter", Check.get(d, "/x/22/x"), 200);
        check.same("what the others are does not matter", d.argument(), 22);
    }

    /** "if there is no parameter with that number, the argument is 0" */
    private static void noSuchParameter(Check check) {
        StageDispatcher d = Check.rooted("/{}");
        Check.method(d, 0, 0, "/{}/{}");
        for (int k = 3; k <= 9; k++) {
            d.detail(0, k, 0, 0);
            check.same("parameter " + k + " of three", Check.get(d, "/1/22/333"), 200);
            check.same("invoked", d.invoked(), 0);
            check.same("argument", d.argument(), 0);
        }
        StageDispatcher e = Check.serving("/a");
        e.detail(0, 0, 0, 0);
        check.same("parameter 0 of none", Check.get(e, "/a"), 200);
        check.same("argument", e.argument(), 0);
        StageDispatcher f = Check.rooted("/{}");
        Check.method(f, 0, 0, "");
        Check.method(f, 0, 0, "/{}");
        f.detail(0, 1, 0, 0);
        check.same("an earlier request had two", Check.get(f, "/5/6"), 200);
        check.same("this one has one", Check.get(f, "/5"), 200);
        check.same("argument", f.argument(), 0);
    }

    /** "(it may have thrown)" */
    private static void itMayHaveThrown(Check check) {
        StageDispatcher d = Check.serving("/{}");
        d.detail(0, 0, 0, 9);
        check.same("it throws", Check.get(d, "/333"), 405);
        check.same("the argument is told all the same", d.argument(), 333);
        check.same("it cannot be converted, which comes first", Check.get(d, "/x"), 404);
        check.same("there is none", d.argument(), 0);
    }

    /** "and converts a parameter; otherwise 0" */
    private static void convertsNothing(Check check) {
        StageDispatcher d = Check.serving("/{}");
        check.same("a request", Check.get(d, "/333"), 200);
        check.same("none is converted", d.argument(), 0);
        check.same("no request", new StageDispatcher().argument(), 0);
    }

    /** "if the method was invoked": the argument of an earlier request is told no more */
    private static void notInvoked(Check check) {
        StageDispatcher d = Check.serving("/{}");
        d.detail(0, 0, 0, 0);
        d.filter(0, 0, 1, 5, 403);
        check.same("a request", Check.get(d, "/333"), 200);
        check.same("its argument", d.argument(), 333);
        check.same("a filter ends it", Check.sent(d, "/44", 5), 403);
        check.same("not invoked", d.argument(), 0);
        Check.get(d, "/333");
        check.same("no such verb", Check.request(d, 1, "/44"), 405);
        check.same("not invoked", d.argument(), 0);
        Check.get(d, "/333");
        check.same("too great", Check.get(d, "/2147483648"), 404);
        check.same("not invoked", d.argument(), 0);
    }
}
