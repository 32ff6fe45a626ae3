/**
 * Stage 3 for all small cases: two methods, and up to two accepted types, each with all that can
 * make a difference, against the second reading of the document.
 */
public final class SmallChoicesTest {
    private static final int[] CONSUMED = {0, 16, 17};
    private static final int[] PRODUCED = {0, 16, 17, 18, 32};
    private static final int[] QUALITIES = {0, 1};
    private static final int[] ACCEPTED = {0, 16, 17, 18, 32};
    private static final int QS = 3;
    private static final int[] CONTENTS = {0, 17};
    /** So many that an object is not used for more than 512 calls. */
    private static final int CHOICES_OF_AN_OBJECT = 35;

    private final Check check = new Check();
    private int requests = 0;
    private StageDispatcher real;
    private Model model;

    public static void main(String[] args) {
        SmallChoicesTest test = new SmallChoicesTest();
        int kinds = CONSUMED.length * PRODUCED.length * QUALITIES.length;
        for (int first = 0; first < kinds; first++) {
            for (int second = 0; second < kinds; second++) {
                test.choices(first, second);
            }
        }
        System.out.println(test.requests + " requests");
        test.check.end();
    }

    private void choices(int first, int second) {
        int kinds = ACCEPTED.length * QS;
        int asked = 0;
        for (int one = -1; one < kinds; one++) {
            for (int two = -1; two < (one < 0 ? 0 : kinds); two++) {
                if (asked % CHOICES_OF_AN_OBJECT == 0) {
                    real = Check.rooted("/a");
                    model = new Model();
                    type("/a");
                    model.resource(true);
                    addMethod(first);
                    addMethod(second);
                }
                asked++;
                for (int content : CONTENTS) {
                    ask(first, second, one, two, content);
                }
            }
        }
    }

    private void addMethod(int kind) {
        int consumes = CONSUMED[kind % CONSUMED.length];
        int produces = PRODUCED[kind / CONSUMED.length % PRODUCED.length];
        int quality = QUALITIES[kind / CONSUMED.length / PRODUCED.length];
        real.method(0, 0, consumes, produces, quality);
        model.method(0, 0, consumes, produces, quality);
    }

    private void type(String text) {
        for (char c : text.toCharArray()) {
            model.put(c);
        }
    }

    private void accept(int kind) {
        if (kind >= 0) {
            int type = ACCEPTED[kind / QS];
            int q = kind % QS;
            real.accept(type, q);
            model.accept(type, q);
        }
    }

    private void ask(int first, int second, int one, int two, int content) {
        accept(one);
        accept(two);
        type("/a");
        int due = model.request(0, content, 0);
        String what = "methods " + first + " and " + second + ", accepted " + one + " and " + two
                + ", content " + content + ": ";
        check.same(what + "status", Check.typed(real, "/a").request(0, content, 0), due);
        check.same(what + "invoked", real.invoked(), model.invoked);
        check.same(what + "produced", real.produced(), model.produced);
        requests++;
    }
}
