import java.lang.reflect.InvocationTargetException;
import java.lang.reflect.Method;
import java.lang.reflect.Modifier;
import java.util.ArrayList;
import java.util.Arrays;
import java.util.Comparator;
import java.util.List;
import java.util.Random;

/** What is so of all calls: the sentences of "What it is" and "Terms", and rule 7 of LANGUAGE.md. */
public final class EdgesOfAllCallsTest {
    private static final int CALLS_OF_AN_OBJECT = 512;
    private static final int[] NUMBERS = {Integer.MIN_VALUE, Integer.MIN_VALUE + 1, -1000, -7, -6, -2, -1, 0, 1, 2, 3,
        4, 5, 6, 7, 8, 9, 10, 11, 15, 16, 20, 24, 25, 26, 33, 58, 59, 65, 66, 67, 68, 69, 70, 71, 98, 99, 100, 109,
        115, 126, 127, 399, 400, 401, 719, 720, 9998, 9999, 10000, 65536, Integer.MAX_VALUE - 1, Integer.MAX_VALUE};
    private static final Due due = new Due();

    public static void main(String[] args) throws IllegalAccessException {
        due.run(EdgesOfAllCallsTest.class, 0, -1);
        due.end();
    }

    private static List<Method> calls() {
        List<Method> calls = new ArrayList<>();
        for (Method method : HostageRound.class.getDeclaredMethods()) {
            if (Modifier.isPublic(method.getModifiers())) {
                calls.add(method);
            }
        }
        calls.sort(Comparator.comparing(Method::getName));
        return calls;
    }

    private static Object[] anyArguments(Method call, Random random) {
        Object[] arguments = new Object[call.getParameterCount()];
        for (int i = 0; i < arguments.length; i++) {
            if (call.getParameterTypes()[i] == boolean.class) {
                arguments[i] = random.nextBoolean();
            } else {
                arguments[i] = NUMBERS[random.nextInt(NUMBERS.length)];
            }
        }
        return arguments;
    }

    private static void callAndLook(HostageRound x, Method call, Object[] arguments) throws IllegalAccessException {
        try {
            call.invoke(x, arguments);
        } catch (InvocationTargetException e) {
            due.holds(call.getName() + Arrays.toString(arguments) + " threw " + e.getCause(), false);
        }
    }

    private static void termsNoCallThrows() throws IllegalAccessException {
        Random random = new Random(6);
        List<Method> calls = calls();
        due.is("calls of the face", calls.size(), 35);
        for (int object = 0; object < 400; object++) {
            HostageRound x = new HostageRound();
            if (object % 4 != 0) {
                x.lands(3 + object % 4);
                x.season(1 + object % 99);
            }
            for (int i = 0; i < CALLS_OF_AN_OBJECT - 2; i++) {
                Method call = calls.get(random.nextInt(calls.size()));
                callAndLook(x, call, anyArguments(call, random));
            }
        }
    }

    private static void termsNoCallThrowsWhenNobodyLives() throws IllegalAccessException {
        Random random = new Random(7);
        for (Method call : calls()) {
            for (int n = 3; n <= 6; n++) {
                HostageRound x = Due.fresh(n, 1);
                Due.write(x, "AdBdCdDdEdFd".substring(0, 2 * n));
                due.is("all die", x.done(), n);
                for (int i = 0; i < 60; i++) {
                    callAndLook(x, call, anyArguments(call, random));
                }
            }
        }
    }

    private static void termsAskingChangesNothing() throws IllegalAccessException {
        Random random = new Random(8);
        List<String> thatChange = List.of("lands", "season", "set", "say", "wipe", "done", "seen", "forget", "image",
            "restore");
        for (Method call : calls()) {
            if (thatChange.contains(call.getName())) {
                continue;
            }
            HostageRound x = Looks.busy();
            HostageRound untouched = Looks.busy();
            for (int i = 0; i < 60; i++) {
                callAndLook(x, call, anyArguments(call, random));
            }
            Looks.compare(due, call.getName(), x, untouched);
        }
    }

    private static void termsTheSameCallsGiveTheSameAnswers() {
        for (int i = 0; i < 5; i++) {
            due.same("a busy object", Looks.all(Looks.busy()), Looks.all(Looks.busy()));
        }
    }

    private static void termsAllCallsOfAnObjectAnswer() {
        HostageRound x = Due.fresh(6, 99);
        for (int text = 0; text < 8; text++) {
            for (int i = 0; i < 60; i++) {
                x.say(';');
            }
            due.is("YEARS " + text, x.done(), 60);
        }
        for (int i = 2 + 8 * 61; i < CALLS_OF_AN_OBJECT - 2; i++) {
            due.is("call " + i, x.where(0, 99), 2);
        }
        due.is("the day", x.told(3), 8 * 60 * 99);
        due.is("the last call", x.told(4), 480);
    }

    private static void termsTheFarthestDayThereIs() {
        // 60 times the rest of a season of 99 days, then as far ahead as can be asked
        HostageRound x = due.live(Due.fresh(6, 99), ";".repeat(60), 60);
        due.live(x, ";".repeat(60), 60);
        due.is("where", x.where(0, 9999), 2);
        // A 1 1 2 3 4 5 1, F 0 1 2 3 4 0 1: in four of the five seasons of a round; 9999 days are
        // 101 seasons, this one and twenty rounds
        due.live(x, "As", 1);
        due.is("together", x.together(0, 5, 9999), 20 * 4 * 99);
    }
}
