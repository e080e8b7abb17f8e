import java.util.HashMap;
import java.util.Map;

/**
 * One call in a told scene: its answer, what status() and count() say of it then, and every change of what can be
 * asked. Two objects are made for it, one of which has not had the call.
 */
final class Edge {
    private static final int[] FAR = {Integer.MIN_VALUE, Integer.MIN_VALUE + 1, -1000000000, -256, 1000001,
        Integer.MAX_VALUE};
    private static final Map<Scene, Map<String, String>> SEEN = new HashMap<>();

    interface Scene {
        void set(ShortPrayers x);
    }

    interface Call {
        int on(ShortPrayers x);
    }

    private Edge() {
    }

    /** Numbers that nothing has, far off, and those told here. */
    static int[] farAnd(int... near) {
        int[] all = new int[FAR.length + near.length];
        System.arraycopy(FAR, 0, all, 0, FAR.length);
        System.arraycopy(near, 0, all, FAR.length, near.length);
        return all;
    }

    /** A call that is REFUSED by a number changes nothing but what is told here. */
    static void refused(Scene scene, String name, int by, Call call, String... changes) {
        check(scene, name, by, true, by, call, changes);
    }

    /** A call that could be REFUSED and is not: the changes told here, and no others. */
    static void taken(Scene scene, String name, int answer, Call call, String... changes) {
        check(scene, name, answer, true, 0, call, changes);
    }

    /** A call of which status() and count() don't tell. */
    static void asked(Scene scene, String name, int answer, Call call, String... changes) {
        check(scene, name, answer, false, 0, call, changes);
    }

    private static void check(Scene scene, String name, int answer, boolean tells, int status, Call call,
            String... changes) {
        ShortPrayers x = new ShortPrayers();
        scene.set(x);
        int statusBefore = x.status();
        int[] refusedBefore = refusals(x);
        Check.due(name, call.on(x), answer);
        Check.due(name + ", status()", x.status(), tells ? status : statusBefore);
        int[] refused = refusals(x);
        for (int i = 0; i < refused.length; i++) {
            boolean oneMore = tells && status != 0 && Check.counter(status) == 10 + i;
            Check.due(name + ", count(" + (10 + i) + ")", refused[i], refusedBefore[i] + (oneMore ? 1 : 0));
        }
        changes(name, before(scene), View.of(x), changes);
    }

    private static int[] refusals(ShortPrayers x) {
        return new int[] {x.count(10), x.count(11), x.count(12), x.count(13), x.count(14)};
    }

    private static Map<String, String> before(Scene scene) {
        return SEEN.computeIfAbsent(scene, s -> {
            ShortPrayers x = new ShortPrayers();
            s.set(x);
            return View.of(x);
        });
    }

    private static void changes(String name, Map<String, String> before, Map<String, String> after, String... changes) {
        Map<String, String> due = new HashMap<>();
        for (String change : changes) {
            int is = change.indexOf('=');
            String what = change.substring(0, is);
            if (!before.containsKey(what) || before.get(what).equals(change.substring(is + 1))) {
                Check.wrong(name + ": " + change + " is no change");
            }
            due.put(what, change.substring(is + 1));
        }
        for (Map.Entry<String, String> entry : after.entrySet()) {
            String what = entry.getKey();
            String want = due.getOrDefault(what, before.get(what));
            if (!entry.getValue().equals(want)) {
                Check.wrong(name + ": then " + what + " is " + entry.getValue() + ", due is " + want);
            }
        }
    }
}
