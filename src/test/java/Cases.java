import java.lang.reflect.InvocationTargetException;
import java.lang.reflect.Method;
import java.lang.reflect.Modifier;
import java.util.TreeMap;

/**
 * Tests of one boundary case each. Every method without arguments of a class of this kind is one, named for its
 * case; the class is named for its promise. Each case has an object of its own, and so a new board x.
 */
abstract class Cases {
    static final int NO_SUCH = -1, BAD_VALUE = -2, BAD_TEXT = -3, TOO_MANY = -4, NOT_POSSIBLE = -5, NONE = -6;
    static final int FOX = 0, HUNT = 1, PASS = 2;
    static final int LEAST = Integer.MIN_VALUE, MOST = Integer.MAX_VALUE;

    BoardEnds x = new BoardEnds();
    private int answers = 0;
    private String wrong = "";

    /** Calls that make a board ready. */
    interface Steps {
        void on(BoardEnds x);
    }

    interface Call {
        int on(BoardEnds x);
    }

    void due(long got, long want) {
        answers++;
        if (got != want && wrong.isEmpty()) {
            wrong = "answer " + answers + " was " + got + ", due is " + want;
        }
    }

    void same(String got, String want) {
        answers++;
        if (!got.equals(want) && wrong.isEmpty()) {
            wrong = "answer " + answers + " was " + got + ", due is " + want;
        }
    }

    void stands(int who, int fox, int low, int high) {
        due(x.now(0), who);
        due(x.now(1), fox);
        due(x.now(2), low);
        due(x.now(3), high);
    }

    void put(String text) {
        Texts.put(x, text);
    }

    /** Sets x up as a text tells, and returns its distance. */
    int read(String text) {
        x.wipe();
        put(text);
        return x.readPad();
    }

    /** Blocks six of the sixteen places: 1, 2, 3, 4, 6 and 7. */
    void blockSix() {
        for (int place : new int[] {1, 2, 3, 4, 6, 7}) {
            x.block(place);
        }
    }

    /** The call returns this error, and everything that the other calls tell is as it was before it. */
    void refused(Steps ready, Call call, int error) {
        for (Steps ground : Told.GROUNDS) {
            for (Told.Way way : Told.WAYS) {
                BoardEnds asked = made(ground, ready);
                due(call.on(asked), error);
                same(way.of(asked), way.of(made(ground, ready)));
            }
            for (Told.Way way : Told.LOOKS) {
                BoardEnds asked = made(ground, ready);
                String before = way.of(asked);
                due(call.on(asked), error);
                same(way.of(asked), before);
            }
        }
    }

    void refused(Call call, int error) {
        refused(x -> { }, call, error);
    }

    /** The call answers without an error, and everything that the other calls tell is as it was before it. */
    void leavesAll(Call call, int answer) {
        BoardEnds asked = new BoardEnds();
        due(call.on(asked), answer);
        for (Steps ground : Told.GROUNDS) {
            for (Told.Way way : Told.WAYS) {
                BoardEnds left = made(ground, x -> { });
                call.on(left);
                same(way.of(left), way.of(made(ground, x -> { })));
            }
        }
    }

    private static BoardEnds made(Steps ground, Steps ready) {
        BoardEnds x = new BoardEnds();
        ground.on(x);
        ready.on(x);
        return x;
    }

    /** Runs all cases of a class, each on an object of its own; leaves with exit code 1 if one fails. */
    static void run(Class<? extends Cases> kind) {
        TreeMap<String, Method> cases = new TreeMap<>();
        for (Class<?> c = kind; c != Cases.class; c = c.getSuperclass()) {
            for (Method method : c.getDeclaredMethods()) {
                int modifiers = method.getModifiers();
                boolean plain = !Modifier.isStatic(modifiers) && !Modifier.isPrivate(modifiers);
                if (plain && method.getParameterCount() == 0 && method.getReturnType() == void.class) {
                    cases.put(method.getName(), method);
                }
            }
        }
        int failed = 0;
        for (Method method : cases.values()) {
            String wrong = wrongIn(kind, method);
            if (!wrong.isEmpty()) {
                failed++;
                System.out.println(kind.getName() + "." + method.getName() + ": " + wrong);
            }
        }
        System.out.println(kind.getName() + ": " + cases.size() + " cases, " + failed + " failed");
        if (failed != 0 || cases.isEmpty()) {
            System.exit(1);
        }
    }

    private static String wrongIn(Class<? extends Cases> kind, Method method) {
        try {
            Cases one = kind.getDeclaredConstructor().newInstance();
            method.invoke(one);
            return one.answers == 0 ? "nothing was checked" : one.wrong;
        } catch (InvocationTargetException e) {
            return "threw " + e.getCause();
        } catch (ReflectiveOperationException e) {
            return "could not be run: " + e;
        }
    }
}
