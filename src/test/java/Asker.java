import java.lang.reflect.Method;
import java.util.Arrays;
import java.util.HashMap;
import java.util.Map;

/**
 * Calls by their names, each on a new object that a setup has made ready: what it answers, with which STATUS, and
 * whether all else is as it was.
 */
final class Asker {
    private static final Map<String, Method> FACE = new HashMap<>();

    private final Check check;
    private String about = "";
    private Portrait.Setup setup;
    private String before = "";

    static {
        for (Method method : SentenceMaker.class.getMethods()) {
            FACE.put(method.getName(), method);
        }
    }

    Asker(Check check) {
        this.check = check;
    }

    /** What is looked at from now on, and on which objects. */
    void begin(String about, Portrait.Setup setup) {
        this.about = about;
        this.setup = setup;
        before = Portrait.of(setup);
    }

    void begin(int promise, Portrait.Setup setup) {
        begin("promise " + promise, setup);
    }

    static long call(SentenceMaker x, String name, Object... args) {
        try {
            return ((Number) FACE.get(name).invoke(x, args)).longValue();
        } catch (ReflectiveOperationException e) {
            throw new IllegalStateException(name + Arrays.toString(args), e);
        }
    }

    private String told(String name, Object... args) {
        return about + ": " + name + Arrays.toString(args);
    }

    private void stays(String name, Object... args) {
        String after = Portrait.of(x -> {
            setup.on(x);
            call(x, name, args);
        });
        String difference = Portrait.difference(before, after);
        check.holds(told(name, args) + " changes nothing else: " + difference, difference.isEmpty());
    }

    private void answers(long want, int status, String name, Object... args) {
        SentenceMaker x = new SentenceMaker();
        setup.on(x);
        leaveAnother(x, status);
        check.due(told(name, args), call(x, name, args), want);
        check.due(told(name, args) + " has the STATUS", x.status(), status);
    }

    /** Another STATUS than the one that is due, so that the call must set it. */
    private static void leaveAnother(SentenceMaker x, int status) {
        if (status == 1) {
            x.rule(-1, 0);
        } else {
            x.many(-1);
        }
    }

    /** The call is refused with that STATUS, and all else is as it was. */
    void no(int status, String name, Object... args) {
        answers(SentenceMaker.NONE, status, name, args);
        stays(name, args);
    }

    /** The call, which only tells something, answers that, with STATUS 0, and all else is as it was. */
    void is(long want, String name, Object... args) {
        answers(want, 0, name, args);
        stays(name, args);
    }

    /** The call is an ACT that answers that: one more can be undone, and undone all is as it was. */
    void acts(long want, String name, Object... args) {
        answers(want, 0, name, args);
        SentenceMaker x = new SentenceMaker();
        setup.on(x);
        int acts = x.many(10);
        call(x, name, args);
        check.due(told(name, args) + " is an ACT", x.many(10), acts + 1);
        String after = Portrait.of(y -> {
            setup.on(y);
            call(y, name, args);
            y.undo();
        });
        String difference = Portrait.difference(before, after);
        check.holds(told(name, args) + " can be undone: " + difference, difference.isEmpty());
    }

    /** The call has no STATUS: that of the call ahead of it, which is 1, stays, and so does all else. */
    void tells(long want, String name, Object... args) {
        SentenceMaker x = new SentenceMaker();
        setup.on(x);
        x.many(-1);
        int status = x.status();
        check.due(told(name, args), call(x, name, args), want);
        check.due(told(name, args) + " leaves the STATUS", x.status(), status);
        stays(name, args);
    }

    /** Numbers below and above a range, at its edges and far out. */
    static int[] outside(int least, int most) {
        return new int[] {least - 1, least - 2, Integer.MIN_VALUE, most + 1, most + 2, Integer.MAX_VALUE};
    }

    static int[] below(int least) {
        return new int[] {least - 1, least - 2, Integer.MIN_VALUE};
    }

    static int[] above(int most) {
        return new int[] {most + 1, most + 2, Integer.MAX_VALUE};
    }
}
