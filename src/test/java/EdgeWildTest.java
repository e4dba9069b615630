import java.lang.reflect.InvocationTargetException;
import java.lang.reflect.Method;
import java.lang.reflect.Modifier;
import java.util.Map;
import java.util.TreeMap;

/**
 * Every call with every choice of numbers at and beyond the document's bounds, on objects in several states: none
 * throws, and whatever is refused changes nothing but finding() and findings().
 */
public final class EdgeWildTest {
    private static final int[] NUMBERS = {Edges.MIN, -1, 0, 1, 2, 3, 6, 8, 9, 10, 14, 40, 41, Edges.MAX};
    private static final int[] FEWER = {-1, 0, 1, 5, 40, Edges.MAX};
    // An object has 512 calls: what makes it ready takes some hundred, a look some twenty.
    private static final int LOOKS = 15;

    private static int wrong;
    private static int refusals;
    private static WhyRoom x;
    private static int looks;

    public static void main(String[] args) throws ReflectiveOperationException {
        Edges.Ready[] states = {WhyRoom::new, Edges::rich, Edges::most, () -> Edges.after(Edges.ROUND, 39)};
        Map<String, Method> calls = new TreeMap<>();
        for (Method method : WhyRoom.class.getDeclaredMethods()) {
            if (Modifier.isPublic(method.getModifiers()) && !method.getName().equals("asked")) {
                calls.put(method.getName(), method);
            }
        }
        for (Edges.Ready state : states) {
            for (Method method : calls.values()) {
                x = null;
                tryAll(state, method);
            }
        }
        System.out.println(wrong == 0 ? refusals + " refusals changed nothing" : wrong + " refusals changed something");
        if (wrong != 0 || refusals == 0) {
            System.exit(1);
        }
    }

    private static void tryAll(Edges.Ready state, Method method) throws ReflectiveOperationException {
        int many = method.getParameterCount();
        int[] numbers = many > 3 ? FEWER : NUMBERS;
        int choices = 1;
        for (int i = 0; i < many; i++) {
            choices *= numbers.length;
        }
        for (int choice = 0; choice < choices; choice++) {
            Object[] arguments = new Object[many];
            int rest = choice;
            for (int i = 0; i < many; i++) {
                arguments[i] = numbers[rest % numbers.length];
                rest /= numbers.length;
            }
            look(state, method, arguments);
        }
    }

    private static void look(Edges.Ready state, Method method, Object[] arguments) throws ReflectiveOperationException {
        if (x == null || ++looks > LOOKS) {
            x = state.make();
            looks = 0;
        }
        long digest = x.digest();
        long told = 31 * (31 * x.upper() + x.lower()) + x.asked();
        int finding = x.finding();
        int findings = sumOfFindings();
        long answer;
        try {
            answer = ((Number) method.invoke(x, arguments)).longValue();
        } catch (InvocationTargetException thrown) {
            complain(method, arguments, "threw " + thrown.getCause());
            x = null;
            return;
        }
        boolean isRefused = method.getReturnType() == int.class && answer < 0 && answer > -7;
        if (!isRefused) {
            x = null;
            return;
        }
        refusals++;
        boolean isFinding = answer == Edges.FINDING;
        if (x.digest() != digest || 31 * (31 * x.upper() + x.lower()) + x.asked() != told) {
            complain(method, arguments, "changed what it should not");
        }
        if (sumOfFindings() != findings + (isFinding ? 1 : 0) || !isFinding && x.finding() != finding) {
            complain(method, arguments, "counted findings wrongly");
        }
        if (isFinding && (x.finding() < 1 || x.finding() > 5)) {
            complain(method, arguments, "found " + x.finding());
        }
    }

    private static int sumOfFindings() {
        int sum = 0;
        for (int f = 1; f <= 5; f++) {
            sum += x.findings(f);
        }
        return sum;
    }

    private static void complain(Method method, Object[] arguments, String what) {
        wrong++;
        if (wrong < 20) {
            System.out.println(method.getName() + java.util.Arrays.toString(arguments) + " " + what);
        }
    }
}
