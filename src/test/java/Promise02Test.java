/** Promise 2: put. */
public final class Promise02Test {
    private static final String TAKEN = "abcdefghijklmnopqrstuvwxyz0123456789/{}";

    public static void main(String[] args) {
        Check check = new Check();
        for (int c = 0; c <= 0xFFFF; c++) {
            boolean due = TAKEN.indexOf(c) >= 0;
            check.same("put " + c, new StageDispatcher().put((char) c) ? 1 : 0, due ? 1 : 0);
        }
        StageDispatcher d = new StageDispatcher();
        Check.root(d, "/a");
        Check.method(d, 0, 0, "/{r}");
        check.yes("/", d.put('/'));
        check.no("A", d.put('A'));
        check.yes("a", d.put('a'));
        check.no("space", d.put(' '));
        check.yes("/", d.put('/'));
        for (int i = 3; i < 24; i++) {
            check.yes("character " + i, d.put((char) ('a' + i)));
        }
        check.no("the 25th", d.put('a'));
        check.no("the 25th again", d.put('{'));
        check.same("the refused ones are not there", d.request(0, 0, 0), 200);
        check.parameters("24 characters", d, "defghijklmnopqrstuvwx");
        check.yes("there is room again", d.put('/'));
        check.end();
    }
}
