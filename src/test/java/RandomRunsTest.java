import java.lang.reflect.InvocationTargetException;
import java.lang.reflect.Method;
import java.util.ArrayList;
import java.util.Arrays;
import java.util.Comparator;
import java.util.List;
import java.util.Random;

/** Random runs of 512 calls on TableFirms and on PlainFirms: every answer has to be the same. */
public final class RandomRunsTest {
    private static final int CALLS = 512;

    private final Random random;
    private final TableFirms x = new TableFirms();
    private final PlainFirms plain = new PlainFirms();
    private final List<String> done = new ArrayList<>();
    private int calls;
    private boolean isWrong;

    private RandomRunsTest(long seed) {
        random = new Random(seed);
    }

    public static void main(String[] args) throws Exception {
        int runs = args.length > 0 ? Integer.parseInt(args[0]) : 600;
        int first = args.length > 1 ? Integer.parseInt(args[1]) : 1;
        for (int run = first; run < first + runs; run++) {
            RandomRunsTest test = new RandomRunsTest(run);
            if (!test.isRight()) {
                System.out.println("random run " + run + " differs:");
                for (String line : test.done) {
                    System.out.println("  " + line);
                }
                System.exit(1);
            }
        }
        System.out.println(runs + " random runs are as the plain firms answer");
    }

    private boolean isRight() throws Exception {
        while (calls < CALLS && !isWrong) {
            int what = random.nextInt(100);
            if (what < 3 || calls == 0 && random.nextInt(10) > 0) {
                tell(table());
            } else if (what < 4) {
                tell(garbled(table()));
            } else if (what < 12 && plain.now != null) {
                rowOfWhatFollows();
            } else if (what < 40 && plain.now != null) {
                anAct();
            } else {
                anyCall();
            }
        }
        return !isWrong;
    }

    // ---- what is called

    private String table() {
        int points = 4 + random.nextInt(random.nextBoolean() ? 3 : 9);
        StringBuilder text = new StringBuilder().append('t').append(points).append(',').append(1 + random.nextInt(4)).append(';');
        int men = 1 + random.nextInt(random.nextInt(4) == 0 ? 3 : 8);
        int spread = 1 + random.nextInt(points + 1);
        boolean isLate = random.nextInt(3) == 0;
        for (int m = 0; m < men; m++) {
            int firm = random.nextInt(2);
            int at = Math.min(points, random.nextInt(spread));
            if (isLate) {
                at = firm == 0 ? points - 1 - random.nextInt(3) : random.nextInt(3);
            }
            text.append("cropb".charAt(random.nextInt(5))).append(firm).append(',').append(at).append(';');
        }
        return text.toString();
    }

    private String garbled(String text) {
        StringBuilder out = new StringBuilder(text);
        for (int i = random.nextInt(3); i >= 0 && out.length() > 0; i--) {
            int at = random.nextInt(out.length());
            switch (random.nextInt(5)) {
                case 0:
                    out.deleteCharAt(at);
                    break;
                case 1:
                    out.insert(at, "0123456789,;cropbtx ".charAt(random.nextInt(20)));
                    break;
                case 2:
                    out.setCharAt(at, (char) random.nextInt(256));
                    break;
                case 3:
                    out.setLength(at);
                    break;
                default:
                    out.append("c0,1;");
            }
        }
        return out.toString();
    }

    private void tell(String text) throws Exception {
        for (int i = 0; i < text.length(); i++) {
            call("feed", text.charAt(i));
        }
        call("table");
        call("fault");
    }

    private void rowOfWhatFollows() throws Exception {
        PlainFirms.Table now = plain.now;
        int d = 1 + random.nextInt(6);
        PlainFirms.Table then = now.ruled(now.thrower, d);
        List<Integer> able = now.able(now.thrower, d);
        if (random.nextBoolean() && !able.isEmpty()) {
            then = now.gone(able.get(random.nextInt(able.size())), d);
        }
        int[] told = then.told();
        int row = random.nextInt(8);
        int from = random.nextInt(3);
        call("row", row, random.nextInt(3), from + told.length);
        for (int i = 0; i < told.length; i++) {
            call("set", row, from + i, told[i]);
        }
        call("cast", row, from);
        call("played", d, row, from);
        for (int m = 0; m < told.length; m++) {
            call("kinds", m, d, row, from);
        }
        call("cast", row, from + 1);
    }

    private void anAct() throws Exception {
        int men = plain.now.men();
        switch (random.nextInt(8)) {
            case 0:
                call("lay", random.nextInt(men), random.nextInt(plain.now.points + 1));
                break;
            case 1:
                call("undo");
                break;
            case 2:
                call("twice");
                break;
            case 3:
            case 4:
                call("move", random.nextInt(men), 1 + random.nextInt(6));
                break;
            default:
                call("play", 1 + random.nextInt(6));
        }
    }

    private void anyCall() throws Exception {
        List<Method> methods = methods();
        Method method = methods.get(random.nextInt(methods.size()));
        if (method.getName().equals("table") && random.nextInt(4) > 0) {
            return;
        }
        int[] args = new int[method.getParameterCount()];
        boolean isOdd = random.nextInt(6) == 0;
        for (int i = 0; i < args.length; i++) {
            args[i] = random.nextInt(8);
            if (random.nextBoolean()) {
                args[i] = random.nextInt(3);
            }
            if (isOdd && random.nextBoolean()) {
                args[i] = odd();
            }
        }
        if (method.getName().equals("drawn") && random.nextInt(5) > 0) {
            args[0] = random.nextInt(62);
            args[1] = random.nextInt(1000001);
        }
        call(method.getName(), args);
    }

    private int odd() {
        int[] numbers = {-1, -2, 9, 10, 12, 13, 14, 39, 40, 41, 60, 61, 127, 128, 255, 256, 32768, 65535, 999999, 1000000,
            Integer.MAX_VALUE, Integer.MIN_VALUE, Integer.MAX_VALUE - 1, Integer.MIN_VALUE + 1};
        return numbers[random.nextInt(numbers.length)];
    }

    // ---- both are called

    private static List<Method> methods() {
        List<Method> methods = new ArrayList<>(Arrays.asList(TableFirms.class.getDeclaredMethods()));
        methods.removeIf(m -> !java.lang.reflect.Modifier.isPublic(m.getModifiers()));
        methods.sort(Comparator.comparing(Method::getName));
        return methods;
    }

    private void call(String name, int... args) throws Exception {
        if (calls >= CALLS || isWrong) {
            return;
        }
        calls++;
        Class<?>[] types = new Class<?>[args.length];
        Object[] boxed = new Object[args.length];
        for (int i = 0; i < args.length; i++) {
            types[i] = int.class;
            boxed[i] = args[i];
        }
        Object got = answer(TableFirms.class.getDeclaredMethod(name, types), x, boxed);
        Object due = answer(PlainFirms.class.getDeclaredMethod(name, types), plain, boxed);
        done.add(name + Arrays.toString(args) + " answered " + got + ", due is " + due);
        isWrong = !got.equals(due);
    }

    private static Object answer(Method method, Object on, Object[] args) throws Exception {
        try {
            return method.invoke(on, args);
        } catch (InvocationTargetException e) {
            return e.getCause().toString();
        }
    }
}
