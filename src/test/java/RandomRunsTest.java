import java.lang.reflect.InvocationTargetException;
import java.lang.reflect.Method;
import java.util.ArrayList;
import java.util.Arrays;
import java.util.Comparator;
import java.util.List;
import java.util.Random;

/** Random runs of calls on the class and on the model, of which every answer must be the same. The seeds are fixed. */
public final class RandomRunsTest {

    private static final int RUNS = 400;
    private static final int CALLS = 512;
    private static final String[] CHANGES = {
        "strike", "strike", "strike", "strike", "strike", "strike", "strike", "strike", "press", "press", "press",
        "press", "type", "setStop", "setMargin", "set", "set", "set", "rest", "undo", "undo", "save"
    };

    private static final String LINES = "sign darkness lineLength words writeLine writeShades";

    private final Random random;
    private final TypebarMachine x = new TypebarMachine();
    private final Model model = new Model();
    private final List<Method> faces = new ArrayList<>();
    private final List<Method> models = new ArrayList<>();
    private final List<String> told = new ArrayList<>();
    private boolean isRight = true;

    private RandomRunsTest(int seed) throws Exception {
        random = new Random(seed);
        for (Method m : TypebarMachine.class.getDeclaredMethods()) {
            if (java.lang.reflect.Modifier.isPublic(m.getModifiers())) {
                faces.add(m);
            }
        }
        faces.sort(Comparator.comparing(Method::getName));
        for (Method m : faces) {
            Class<?>[] types = m.getName().equals("append") ? new Class<?>[] {int[].class} : m.getParameterTypes();
            models.add(Model.class.getDeclaredMethod(m.getName(), types));
        }
    }

    public static void main(String[] args) throws Exception {
        int wrong = 0;
        long asked = 0;
        for (int seed = 1; seed <= RUNS && wrong < 3; seed++) {
            RandomRunsTest run = new RandomRunsTest(seed);
            run.go();
            asked += run.told.size();
            if (!run.isRight) {
                wrong++;
                System.out.println("run with the seed " + seed + ":");
                run.told.subList(Math.max(0, run.told.size() - 40), run.told.size()).forEach(System.out::println);
            }
        }
        System.out.println("RandomRunsTest: " + asked + " calls, " + wrong + " runs went wrong");
        if (wrong > 0) {
            System.exit(1);
        }
    }

    private void go() throws Exception {
        while (isRight && told.size() < CALLS) {
            int dice = random.nextInt(100);
            boolean hopes = model.isEmpty() && random.nextInt(20) > 0;
            if (hopes || random.nextInt(120) == 0) {
                put(machineText());
                call("load", random.nextInt(20) == 0 ? random.nextInt(520) - 10 : length);
            } else if (dice < 12) {
                put(keys());
                looksAtText();
                call("type", random.nextInt(9) == 0 ? random.nextInt(520) - 10 : length);
            } else if (dice < 50) {
                callRandomly(CHANGES[random.nextInt(CHANGES.length)]);
            } else {
                callRandomly(faces.get(random.nextInt(faces.size())).getName());
            }
        }
    }

    private int length;

    private void put(String text) throws Exception {
        length = text.length();
        // What stands in the buffer already is taken away, or the text would stand behind it.
        if (x.buffered() > 0) {
            call(random.nextInt(3) == 0 ? "type" : "load", 0);
        }
        if (x.buffered() > 0) {
            call("load", 0);
        }
        for (int i = 0; i < text.length() && isRight; i += 20) {
            Object[] fives = new Object[5];
            for (int k = 0; k < 5; k++) {
                int four = 0;
                for (int b = 0; b < 4; b++) {
                    int at = i + 4 * k + b;
                    four = four << 8 | (at < text.length() ? text.charAt(at) : random.nextInt(256));
                }
                fives[k] = four;
            }
            call("append", fives);
        }
    }

    private void looksAtText() throws Exception {
        int n = random.nextInt(9) == 0 ? random.nextInt(30) : length;
        if (random.nextInt(3) == 0) {
            for (int what = 0; what <= 5; what++) {
                call("wouldType", n, what);
            }
        }
        if (random.nextInt(3) == 0) {
            call("paceFor", n);
        }
    }

    private String keys() {
        StringBuilder text = new StringBuilder();
        String usual = random.nextBoolean() ? "abcdeABCDE" : "abc  ><^!/0123";
        int keys = random.nextInt(10) == 0 ? random.nextInt(200) : random.nextInt(12);
        for (int i = 0; i < keys; i++) {
            int dice = random.nextInt(40);
            if (dice == 0) {
                text.append((char) random.nextInt(256));
            } else if (dice < 12) {
                text.append(" ></^!0123456789abcdefgzABCDEFGZ".charAt(random.nextInt(32)));
            } else {
                text.append(usual.charAt(random.nextInt(usual.length())));
            }
        }
        return text.toString();
    }

    private String machineText() {
        int width = 10 + random.nextInt(random.nextBoolean() ? 4 : 31);
        int lines = 1 + random.nextInt(12);
        int left = random.nextInt(Math.min(width - 1, 5));
        int right = left + 1 + random.nextInt(width - left - 1);
        int bell = random.nextInt(right - left + 1);
        StringBuilder text = new StringBuilder();
        text.append("machine ").append(width).append(' ').append(lines).append(' ').append(left).append(' ');
        text.append(right).append(' ').append(bell).append("; speed ");
        text.append(1 + random.nextInt(random.nextInt(4) == 0 ? 999 : 40)).append(' ');
        text.append(1 + random.nextInt(random.nextInt(4) == 0 ? 99 : 20)).append(' ');
        text.append(random.nextInt(random.nextBoolean() ? 100 : 12)).append(' ').append(random.nextInt(100));
        text.append(";ribbon ").append(5 + random.nextInt(random.nextBoolean() ? 3 : 56)).append(' ');
        text.append(1 + random.nextInt(9)).append(' ').append(random.nextInt(4));
        String letters = random.nextInt(5) == 0 ? "zyxwvutsrqponmlkjihgfedcba" : "abcde";
        int bars = random.nextInt(3) == 0 ? random.nextInt(letters.length() + 1) : letters.length();
        for (int i = 0; i < bars; i++) {
            text.append(random.nextInt(60) == 0 ? "" : ";").append(i % 3 == 0 ? " " : "").append("bar ");
            text.append(letters.charAt(random.nextInt(80) == 0 ? 0 : i)).append(' ');
            text.append(random.nextInt(150) == 0 ? 181 : random.nextInt(181));
        }
        for (int i = random.nextInt(5); i > 0; i--) {
            text.append("; tab ").append(random.nextInt(width + (random.nextInt(9) == 0 ? 1 : 0)));
        }
        if (random.nextInt(6) == 0) {
            int at = random.nextInt(text.length());
            text.setCharAt(at, ";a 19Z\u00e9:".charAt(random.nextInt(8)));
        }
        if (random.nextInt(12) == 0) {
            text.setLength(random.nextInt(text.length()));
        }
        return text.substring(0, Math.min(500, text.length()));
    }

    private void callRandomly(String name) throws Exception {
        Method face = faces.get(indexOf(name));
        Class<?>[] types = face.getParameterTypes();
        Object[] given = new Object[types.length];
        for (int i = 0; i < given.length; i++) {
            given[i] = types[i] == boolean.class ? (Object) random.nextBoolean() : (Object) number(name, i, given);
        }
        call(name, given);
    }

    private int number(String name, int i, Object[] given) {
        int dice = random.nextInt(60);
        if (dice == 0) {
            return new int[] {Integer.MIN_VALUE, Integer.MAX_VALUE, -1, 41, 1000, 10000, -2, 60}[random.nextInt(8)];
        }
        if (name.equals("set") && i == 1) {
            int what = (Integer) given[0];
            return what == 5 ? random.nextInt(random.nextBoolean() ? 30 : 1002) : random.nextInt(what == 4 || what > 8 ? 5 : 101);
        }
        if (name.equals("rest")) {
            return random.nextInt(random.nextBoolean() ? 50 : 10002);
        }
        if (name.equals("barOf") || name.equals("letters")) {
            return dice < 30 ? "abcdeABCDE @[`{".charAt(random.nextInt(15)) : random.nextInt(130);
        }
        if (name.equals("strike") || name.equals("wouldBe") || name.equals("freeIn") || name.equals("paceOf")
                || name.equals("bar") && i == 0) {
            return random.nextInt(dice < 55 && !model.isEmpty() ? model.count(0) + 1 : 28);
        }
        if (name.equals("save") || name.equals("restore")) {
            return random.nextInt(dice < 5 ? 3 : 2);
        }
        if (name.equals("press")) {
            return dice < 20 ? 5 : random.nextInt(dice < 55 ? 6 : 7);
        }
        if (name.equals("bar") || name.equals("carriage") || name.equals("head") || name.equals("wouldType")) {
            return random.nextInt(dice < 50 ? 4 : 7);
        }
        if (LINES.contains(name) && i == 0 && dice < 55 && !model.isEmpty()) {
            return random.nextInt(dice < 40 ? model.carriage(0) + 1 : model.setting(1) + 1);
        }
        if ((name.equals("sign") || name.equals("darkness")) && dice < 55 && !model.isEmpty()) {
            return random.nextInt(model.carriage(1) + 1);
        }
        return random.nextInt(dice < 40 ? 13 : 41);
    }

    private int indexOf(String name) {
        for (int i = 0; i < faces.size(); i++) {
            if (faces.get(i).getName().equals(name)) {
                return i;
            }
        }
        throw new IllegalStateException(name);
    }

    private void call(String name, Object... given) throws Exception {
        if (!isRight) {
            return;
        }
        int i = indexOf(name);
        Object due = answer(models.get(i), model, name.equals("append") ? new Object[] {ints(given)} : given);
        Object got = answer(faces.get(i), x, given);
        isRight = due.equals(got);
        told.add(name + Arrays.toString(given) + " answered " + got + (isRight ? "" : ", due is " + due));
    }

    private static int[] ints(Object[] given) {
        return Arrays.stream(given).mapToInt(g -> (Integer) g).toArray();
    }

    private static Object answer(Method m, Object on, Object[] given) throws Exception {
        try {
            return m.invoke(on, given);
        } catch (InvocationTargetException e) {
            return e.getCause().getClass().getName();
        }
    }
}
