import java.lang.reflect.InvocationTargetException;
import java.lang.reflect.Method;
import java.util.Arrays;
import java.util.Comparator;

/** Tells every answer that is not the one that is due, and ends a test. */
final class Due {
    /** One call on an object. */
    interface Call {
        long on(HostageRound x);
    }

    /** Calls on an object that are not asked about. */
    interface Ahead {
        void on(HostageRound x);
    }

    private String test = "";
    private int tests = 0;
    private int asked = 0;
    private int wrong = 0;

    void is(String call, long got, long want) {
        asked++;
        if (got != want) {
            wrong++;
            System.out.println(test + call + " answered " + got + ", due is " + want);
        }
    }

    void holds(String what, boolean so) {
        is(what, so ? 1 : 0, 1);
    }

    void same(String what, String got, String want) {
        asked++;
        if (!got.equals(want)) {
            wrong++;
            System.out.println(test + what + " left\n  " + got + "\n  due is\n  " + want);
        }
    }

    /** The call answers the refusal and changes nothing of an object in which much has happened. */
    void refused(String call, long refusal, Call refusedCall) {
        refused(call, refusal, x -> { }, refusedCall);
    }

    void refused(String call, long refusal, Ahead ahead, Call refusedCall) {
        HostageRound x = Looks.busy();
        HostageRound untouched = Looks.busy();
        ahead.on(x);
        ahead.on(untouched);
        is(call, refusedCall.on(x), refusal);
        Looks.compare(this, call, x, untouched);
    }

    /** A text on the PAD, which was wiped first. */
    static HostageRound write(HostageRound x, String text) {
        x.wipe();
        for (int i = 0; i < text.length(); i++) {
            x.say(text.charAt(i));
        }
        return x;
    }

    /** A text on the PAD that is DONE. */
    HostageRound live(HostageRound x, String text, int acts) {
        write(x, text);
        is("done() of " + text, x.done(), acts);
        return x;
    }

    static HostageRound fresh(int lands, int days) {
        HostageRound x = new HostageRound();
        x.lands(lands);
        x.season(days);
        return x;
    }

    /**
     * Runs the tests of a class one by one: its methods that are named after a promise, "promise07..",
     * or after what is so of all of them, "terms..". Each of the promises has to have one.
     */
    void run(Class<?> all, int firstPromise, int lastPromise) throws IllegalAccessException {
        Method[] methods = all.getDeclaredMethods();
        Arrays.sort(methods, Comparator.comparing(Method::getName));
        boolean[] hasOne = new boolean[100];
        for (Method method : methods) {
            if (method.getName().matches("promise\\d\\d\\w+")) {
                hasOne[Integer.parseInt(method.getName().substring(7, 9))] = true;
                run(method);
            } else if (method.getName().startsWith("terms")) {
                run(method);
            }
        }
        test = "";
        for (int promise = firstPromise; promise <= lastPromise; promise++) {
            holds("a test of promise " + promise, hasOne[promise]);
        }
    }

    private void run(Method method) throws IllegalAccessException {
        test = method.getName() + ": ";
        tests++;
        int before = asked;
        try {
            method.setAccessible(true);
            method.invoke(null);
            holds("something was asked", asked > before);
        } catch (InvocationTargetException e) {
            wrong++;
            System.out.println(test + "threw " + e.getCause());
        }
    }

    void end() {
        System.out.println((tests > 0 ? tests + " tests, " : "") + asked + " answers, " + wrong + " of them not as due");
        if (wrong != 0) {
            System.exit(1);
        }
    }
}
