import java.lang.management.ManagementFactory;

/** All calls of a run share one room: an object is small, and its dearest calls make nothing. */
public final class RoomTest {
    public static void main(String[] args) {
        Check check = new Check();
        com.sun.management.ThreadMXBean bean =
                (com.sun.management.ThreadMXBean) ManagementFactory.getThreadMXBean();
        long thread = Thread.currentThread().getId();
        StageDispatcher[] all = new StageDispatcher[100];
        new StageDispatcher();
        long before = bean.getThreadAllocatedBytes(thread);
        for (int i = 0; i < all.length; i++) {
            all[i] = new StageDispatcher();
        }
        long each = (bean.getThreadAllocatedBytes(thread) - before) / all.length;
        System.out.println("bytes of an object: " + each);
        check.yes("an object is small", each < 6000);

        String path = "/a/b/c/d/e/f/g/h/i/j/kxl";
        for (StageDispatcher d : all) {
            Check.root(d, "/{r}");
            Check.locator(d, 0, "/{r}{r}{r}{r}x", 0);
            Check.method(d, 0, 0, "/{}");
            ask(d, path);
        }
        before = bean.getThreadAllocatedBytes(thread);
        for (int i = 0; i < 10 * all.length; i++) {
            ask(all[i % all.length], path);
        }
        long asked = bean.getThreadAllocatedBytes(thread) - before;
        System.out.println("bytes of 1000 requests and their puts: " + asked);
        check.yes("requests make nothing", asked < 10000);
        check.end();
    }

    private static int ask(StageDispatcher d, String path) {
        for (int i = 0; i < path.length(); i++) {
            d.put(path.charAt(i));
        }
        d.accept(0, 1);
        d.filter(100, 0, 0, 0, 0);
        return d.request(0, 0, 0) + d.parameter(0, 0) + d.hop(0) + d.ran(0);
    }
}
