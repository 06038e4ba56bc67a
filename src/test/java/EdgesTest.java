import java.lang.reflect.InvocationTargetException;
import java.lang.reflect.Method;

/**
 * Every call with every row of numbers from the edges, on an object that is empty, one that has some and one that is
 * full: nothing is thrown, and the answers are the model's.
 */
public final class EdgesTest {
    private static final int[] EDGES = {Integer.MIN_VALUE, -1, 0, 1, 2, 5, 8, 16, 24, 25, 160, 999, Integer.MAX_VALUE};
    private static final int[] FEW = {Integer.MIN_VALUE, -1, 0, 1, 3, 6, 24, Integer.MAX_VALUE};
    private static final int CALLS = 400;
    private static final Due DUE = new Due("EdgesTest");

    public static void main(String[] args) throws ReflectiveOperationException {
        for (Method call : TellKeys.class.getDeclaredMethods()) {
            if (call.getModifiers() == java.lang.reflect.Modifier.PUBLIC) {
                for (int state = 0; state < 3; state++) {
                    askAll(call, state);
                }
            }
        }
        DUE.end();
    }

    private static void askAll(Method call, int state) throws ReflectiveOperationException {
        int n = call.getParameterCount();
        int[] edges = n > 3 ? FEW : EDGES;
        int rows = (int) Math.pow(edges.length, n);
        Method same = Model.class.getDeclaredMethod(call.getName(), call.getParameterTypes());
        TellKeys x = null;
        Model m = null;
        for (int row = 0; row < rows; row++) {
            if (row % CALLS == 0) {
                x = new TellKeys();
                m = new Model();
                makeReady(x, m, state);
            }
            Object[] numbers = new Object[n];
            StringBuilder name = new StringBuilder(state + ": " + call.getName());
            for (int i = 0, rest = row; i < n; i++, rest /= edges.length) {
                long number = edges[rest % edges.length];
                numbers[i] = call.getParameterTypes()[i] == long.class ? (Object) number : (Object) (int) number;
                name.append(' ').append(number);
            }
            DUE.is(name.toString(), (int) same.invoke(m, numbers), answer(call, x, numbers));
        }
    }

    private static long answer(Method call, TellKeys x, Object[] numbers) throws IllegalAccessException {
        try {
            return (int) call.invoke(x, numbers);
        } catch (InvocationTargetException thrown) {
            System.out.println("EdgesTest: " + call.getName() + " threw " + thrown.getCause());
            return Long.MIN_VALUE;
        }
    }

    private static void makeReady(TellKeys x, Model m, int state) {
        int doors = state * 8;
        for (int i = 0; i < doors; i++) {
            x.door(i % 10, (i + 1 + i / 10) % 10, (i + state) % 9);
            m.door(i % 10, (i + 1 + i / 10) % 10, (i + state) % 9);
        }
        for (int i = 0; i < state * 4; i++) {
            x.key(i % 4, 1);
            m.key(i % 4, 1);
            x.change(i, i % 2);
            m.change(i, i % 2);
        }
        for (int sheet = 0; sheet < state * 2; sheet++) {
            x.sheet(sheet, sheet % 3, sheet == 1 ? 0 : 24);
            m.sheet(sheet, sheet % 3, sheet == 1 ? 0 : 24);
        }
        for (int i = 0; i < state * 10; i++) {
            x.type(Due.word(" ".repeat(8)), 8);
            m.type(Due.word(" ".repeat(8)), 8);
        }
        if (state == 2) {
            x.image();
            m.image();
        }
    }
}
