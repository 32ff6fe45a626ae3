/**
 * Terms: types. Which numbers are types: see promises 4, 9 and 10. Here t and s are told apart, so
 * that the words of the document can be written down as they stand.
 */
public final class TypesTest {
    private static final int NONE = StageDispatcher.NONE;
    /** All types. */
    private static final int[] TYPES = {0, 16, 17, 18, 19, 32, 33, 34, 35, 48, 49, 50, 51};

    public static void main(String[] args) {
        Check check = new Check();
        allTypes(check);
        covering(check);
        meeting(check);
        ranksOfTheConsumed(check);
        ranksOfWhereTheyMeet(check);
        differences(check);
        check.end();
    }

    private static boolean covers(int a, int b) {
        int t = a / 16;
        int s = a % 16;
        return a == 0 || a == b || s == 0 && t == b / 16;
    }

    /** "16 * t + s with t and s from 0 to 3, and s is 0 if t is 0" */
    private static void allTypes(Check check) {
        for (int t = -1; t <= 4; t++) {
            for (int s = -1; s <= 4; s++) {
                boolean due = t >= 0 && t <= 3 && s >= 0 && s <= 3 && (t != 0 || s == 0);
                StageDispatcher d = new StageDispatcher();
                check.same("t " + t + ", s " + s, d.accept(16 * t + s, 1) ? 1 : 0, due ? 1 : 0);
            }
        }
    }

    /** "A type COVERS another one when it is 0, or the same, or its s is 0 and its t the same." */
    private static void covering(Check check) {
        for (int consumed : TYPES) {
            for (int content : TYPES) {
                if (content % 16 != 0) {
                    StageDispatcher d = Check.rooted("/a");
                    d.method(0, 0, consumed, 17, 0);
                    check.same(consumed + " and the content " + content, Check.typed(d, "/a").request(0, content, 0),
                            covers(consumed, content) ? 200 : 415);
                }
            }
        }
    }

    /** "Two types MEET when one covers the other; where they meet is then the other." */
    private static void meeting(Check check) {
        for (int made : TYPES) {
            for (int accepted : TYPES) {
                StageDispatcher d = Check.rooted("/a");
                d.method(0, 0, 0, made, 0);
                d.accept(accepted, 1);
                int met = covers(accepted, made) ? made : covers(made, accepted) ? accepted : NONE;
                int due = met == NONE ? NONE : met % 16 != 0 ? met : met <= 16 ? 255 : NONE;
                check.same(made + " meets " + accepted, Check.get(d, "/a"), due == NONE ? 406 : 200);
                check.same("where " + made + " meets " + accepted, d.produced(), due);
            }
        }
    }

    /** "2 if it is concrete, 1 if it is 16 * t, 0 if it is 0; 0 also when the request has no content type" */
    private static void ranksOfTheConsumed(Check check) {
        int[][] rising = {{0, 16, 18}, {0, 32, 35}, {0, 48, 49}};
        for (int[] types : rising) {
            for (int low = 0; low < 3; low++) {
                for (int high = low; high < 3; high++) {
                    StageDispatcher d = Check.rooted("/a");
                    d.method(0, 0, types[low], 17, 0);
                    d.method(0, 0, types[high], 17, 0);
                    Check.typed(d, "/a").request(0, types[2], 0);
                    check.same(types[high] + " ranks above " + types[low], d.invoked(), low == high ? 0 : 1);
                    Check.get(d, "/a");
                    check.same("without a content type they are equals", d.invoked(), 0);
                }
            }
        }
    }

    /** Where they meet is of rank 0, 1 or 2: the greater counts, whatever q and quality are. */
    private static void ranksOfWhereTheyMeet(Check check) {
        int[] rising = {0, 16, 17};
        for (int low = 0; low < 3; low++) {
            for (int high = low + 1; high < 3; high++) {
                StageDispatcher d = Check.rooted("/a");
                d.method(0, 0, 0, rising[low], 1000);
                d.method(0, 0, 0, rising[high], 0);
                check.same("a request", Check.get(d, "/a"), 200);
                check.same(rising[high] + " ranks above " + rising[low], d.invoked(), 1);
                StageDispatcher e = Check.serving("/a");
                e.accept(rising[low], 1000);
                e.accept(rising[high], 1);
                Check.get(e, "/a");
                check.same("accepted, " + rising[high] + " ranks above " + rising[low], e.produced(),
                        rising[high] == 17 ? 17 : 255);
            }
        }
    }

    /** "then the lesser difference between the ranks of the two types" */
    private static void differences(Check check) {
        int[] falling = {0, 16, 17};
        for (int far = 0; far < 3; far++) {
            for (int near = far + 1; near < 3; near++) {
                StageDispatcher d = Check.rooted("/a");
                d.method(0, 0, 0, falling[far], 7);
                d.method(0, 0, 0, falling[near], 7);
                d.accept(17, 5);
                Check.get(d, "/a");
                check.same(falling[near] + " is nearer to 17 than " + falling[far], d.invoked(), 1);
                check.same("the type", d.produced(), 17);
                StageDispatcher e = Check.rooted("/a");
                e.method(0, 0, 0, falling[far], 8);
                e.method(0, 0, 0, falling[near], 7);
                e.accept(17, 5);
                Check.get(e, "/a");
                check.same("but the quality comes first", e.invoked(), 0);
            }
        }
    }
}
