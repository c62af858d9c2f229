import java.lang.reflect.InvocationTargetException;
import java.lang.reflect.Method;
import java.util.ArrayList;
import java.util.Arrays;
import java.util.HashMap;
import java.util.List;
import java.util.Map;
import java.util.Random;
import java.util.Set;
import java.util.TreeSet;

/** Random runs of calls, the same ones each time, on CauldronTypes and on the Model; the answers must agree. */
public final class ModelTest {
    private static final int RUNS = 400;
    private static final int MOST_CALLS = 512;
    private static final Map<String, Method> FACE = methods(CauldronTypes.class);
    private static final Map<String, Method> MODEL = methods(Model.class);
    private static final int[] EDGES = {Integer.MIN_VALUE, -10000, -9999, -101, -100, -99, -2, -1, 0, 1, 2, 3, 4, 5, 6,
        7, 9, 10, 23, 24, 59, 60, 98, 99, 100, 9999, 10000, Integer.MAX_VALUE};
    private static final String[] CHANGES = {"drams", "broth", "pour", "ladle", "bounds", "write", "erase", "cook",
        "cookAll", "undo", "save", "restore"};

    private final Check check = new Check();
    private final Set<String> seen = new TreeSet<>();
    private Random random;
    private CauldronTypes program;
    private Model model;
    private int calls;
    private List<String> run;

    private static Map<String, Method> methods(Class<?> of) {
        Map<String, Method> found = new HashMap<>();
        for (Method method : of.getDeclaredMethods()) {
            if (java.lang.reflect.Modifier.isPublic(method.getModifiers())) {
                method.setAccessible(true);
                found.put(method.getName(), method);
            }
        }
        return found;
    }

    public static void main(String[] arguments) throws IllegalAccessException {
        ModelTest test = new ModelTest();
        for (int seed = 0; seed < RUNS && !test.check.hasFailed(); seed++) {
            test.go(seed);
        }
        test.checkSeen();
        test.check.end("ModelTest");
    }

    private void go(int seed) throws IllegalAccessException {
        random = new Random(seed);
        program = new CauldronTypes();
        model = new Model();
        calls = 0;
        run = new ArrayList<>();
        int start = random.nextInt(7);
        for (int many = 0; many < start; many++) {
            setUp();
        }
        while (calls < MOST_CALLS - 70 && !check.hasFailed()) {
            step();
        }
        while (calls < MOST_CALLS && !check.hasFailed()) {
            ask();
        }
        if (check.hasFailed()) {
            System.out.println("seed " + seed + ", the last calls were: "
                    + run.subList(Math.max(0, run.size() - 40), run.size()));
        }
    }

    private void setUp() throws IllegalAccessException {
        if (random.nextInt(3) == 0) {
            call("broth");
        } else if (random.nextInt(3) == 0) {
            call("drams", -99, 99);
        } else {
            int low = random.nextInt(199) - 99;
            call("drams", low, low + random.nextInt(100 - low));
        }
    }

    private void step() throws IllegalAccessException {
        int cauldrons = Math.max(1, model.account(0));
        int spells = Math.max(1, model.account(1));
        switch (random.nextInt(24)) {
            case 0 -> setUp();
            case 1, 2, 3 -> write();
            case 4 -> call("pour", random.nextInt(cauldrons), random.nextInt(41) - 20);
            case 5, 6 -> call("ladle", random.nextInt(cauldrons), random.nextBoolean()
                    ? random.nextInt(19999) - 9999 : random.nextInt(5) - 2);
            case 7 -> {
                int low = random.nextInt(120) - 99;
                call("bounds", random.nextInt(cauldrons), low, low + random.nextInt(100 - low));
            }
            case 8 -> callIf(0.5, "erase", random.nextInt(spells));
            case 9, 10, 11, 12 -> call("cook", random.nextInt(spells));
            case 13 -> call("cookAll");
            case 14 -> callIf(0.5, "undo");
            case 15 -> callIf(0.3, "save");
            case 16 -> callIf(0.3, "restore");
            case 17 -> wild();
            default -> ask();
        }
    }

    private void ask() throws IllegalAccessException {
        int cauldron = random.nextInt(Math.max(1, model.account(0)));
        int spell = random.nextInt(Math.max(1, model.account(1)));
        switch (random.nextInt(20)) {
            case 0 -> call("cauldronOf", cauldron, random.nextInt(7));
            case 1 -> call("cups", cauldron);
            case 2 -> call("bits", cauldron);
            case 3 -> call("spellOf", spell, random.nextInt(5));
            case 4 -> call("token", spell, random.nextInt(24));
            case 5 -> call("types", spell);
            case 6 -> call("typesAgain", spell);
            case 7 -> call("fault", spell);
            case 8 -> call("bound", spell, random.nextInt(4), random.nextBoolean());
            case 9 -> call("would", spell, cauldron);
            case 10 -> call("wouldAgain", spell, cauldron);
            case 11 -> call("boils", spell);
            case 12 -> call("lasts", spell);
            case 13 -> call("ranked", random.nextInt(4));
            case 14 -> call("tell", spell);
            case 15 -> call("tellCauldron", cauldron);
            case 16 -> call("account", random.nextInt(10));
            case 17 -> call("reason", random.nextBoolean(), random.nextBoolean());
            case 18 -> call("character", random.nextInt(30));
            default -> {
                String[] plain = {"typed", "widest", "isSafe", "meanBits", "typedShare", "errorPosition"};
                call(plain[random.nextInt(plain.length)]);
            }
        }
    }

    private void wild() throws IllegalAccessException {
        List<String> names = new ArrayList<>(new TreeSet<>(MODEL.keySet()));
        String name = names.get(random.nextInt(names.size()));
        Class<?>[] kinds = MODEL.get(name).getParameterTypes();
        Object[] values = new Object[kinds.length];
        for (int index = 0; index < kinds.length; index++) {
            int edge = EDGES[random.nextInt(EDGES.length)];
            values[index] = kinds[index] == boolean.class ? (Object) random.nextBoolean()
                    : kinds[index] == char.class ? (Object) (char) random.nextInt(random.nextInt(4) == 0 ? 65536 : 140)
                    : (Object) (random.nextBoolean() ? edge : random.nextInt(8));
        }
        call(name, values);
    }

    private void callIf(double chance, String name, Object... values) throws IllegalAccessException {
        if (random.nextDouble() < chance) {
            call(name, values);
        }
    }

    private void write() throws IllegalAccessException {
        if (model.account(1) == 4 && random.nextInt(8) != 0) {
            call("erase", random.nextInt(4));
        }
        String text = new Texts(random, model).next();
        for (int index = 0; index < text.length() && calls < MOST_CALLS; index++) {
            call("append", text.charAt(index));
        }
        call("write");
    }

    private void call(String name, Object... values) throws IllegalAccessException {
        calls++;
        run.add(name + Arrays.toString(values));
        Object due = answer(MODEL.get(name), model, values);
        Object got = answer(FACE.get(name), program, values);
        check.same(name + Arrays.toString(values), due, got);
        see(name, due);
        if (Arrays.asList(CHANGES).contains(name)) {
            compareAll();
        }
    }

    private static Object answer(Method method, Object on, Object[] values) throws IllegalAccessException {
        try {
            return method.invoke(on, values);
        } catch (InvocationTargetException thrown) {
            if (thrown.getCause() instanceof AssertionError error) {
                throw error;
            }
            return "throws " + thrown.getCause().getClass().getName();
        }
    }

    /** What a change leaves is compared beyond the 512 calls; questions change nothing that these would tell. */
    private void compareAll() throws IllegalAccessException {
        for (int account = 0; account < 10; account++) {
            check.same("account " + account, model.account(account), program.account(account));
        }
        for (int cauldron = 0; cauldron < model.account(0); cauldron++) {
            check.same("bits " + cauldron, model.bits(cauldron), program.bits(cauldron));
            for (int what = 0; what < 7; what++) {
                check.same("cauldronOf " + cauldron, model.cauldronOf(cauldron, what),
                        program.cauldronOf(cauldron, what));
            }
            see("bits", model.bits(cauldron));
        }
        for (int spell = 0; spell < model.account(1); spell++) {
            for (String name : new String[] {"types", "typesAgain", "fault", "boils", "lasts"}) {
                Object due = answer(MODEL.get(name), model, new Object[] {spell});
                check.same(name + " " + spell, due, answer(FACE.get(name), program, new Object[] {spell}));
                see(name, due);
            }
            for (int cauldron = 0; cauldron < model.account(0); cauldron++) {
                Object due = answer(MODEL.get("would"), model, new Object[] {spell, cauldron});
                check.same("would", due, answer(FACE.get("would"), program, new Object[] {spell, cauldron}));
                check.same("wouldAgain", due, answer(FACE.get("wouldAgain"), program, new Object[] {spell, cauldron}));
            }
        }
        for (int flags = 0; flags < 4; flags++) {
            Object[] values = {flags / 2 == 1, flags % 2 == 1};
            check.same("reason", answer(MODEL.get("reason"), model, values),
                    answer(FACE.get("reason"), program, values));
        }
        check.same("meanBits", answer(MODEL.get("meanBits"), model, new Object[0]),
                answer(FACE.get("meanBits"), program, new Object[0]));
        check.same("errorPosition", answer(MODEL.get("errorPosition"), model, new Object[0]),
                answer(FACE.get("errorPosition"), program, new Object[0]));
    }

    private void see(String name, Object answer) {
        seen.add(name + (answer instanceof String thrown ? " " + thrown.replaceAll(".*\\.", "") : ""));
        if (answer.equals("throws java.lang.UnsupportedOperationException")) {
            int reason = model.reason(false, false);
            seen.add("reason " + reason);
            if (reason == 6) {
                int detail = model.reason(true, true);
                seen.add("cause " + model.reason(true, false)
                        + (model.reason(true, false) == 3 ? "" : detail >= 0 ? " above" : " below"));
            }
        }
        if (name.equals("lasts") && answer.equals(50)) {
            seen.add("lasts 50");
        }
        if (name.equals("bits") && answer instanceof Integer bits) {
            if (bits == Integer.MIN_VALUE) {
                seen.add("a zero below zero");
            } else if ((bits & 0x7fffffff) != 0 && (bits & 0x7f800000) == 0) {
                seen.add("a float without a leading digit");
            } else if (Math.abs(Float.intBitsToFloat(bits)) == 9999.0f) {
                seen.add("held broth");
            }
        }
    }

    private void checkSeen() {
        for (String due : new String[] {"reason 1", "reason 2", "reason 3", "reason 4", "reason 5", "reason 6",
            "reason 9", "cause 3", "cause 7 above", "cause 7 below", "cause 8 above", "cause 8 below", "lasts 50",
            "a zero below zero", "a float without a leading digit", "held broth"}) {
            check.same("seen in the runs: " + due, true, seen.contains(due));
        }
        for (String name : MODEL.keySet()) {
            check.same("answered in the runs: " + name, true, seen.contains(name));
        }
    }

    /** Makes texts that are mostly spells, and mostly such that kinds go together. */
    private static final class Texts {
        private final Random random;
        private final Model model;
        private final List<Boolean> spoons = new ArrayList<>();
        private final StringBuilder text = new StringBuilder();
        private final double care;

        Texts(Random random, Model model) {
            this.random = random;
            this.model = model;
            this.care = random.nextInt(4) == 0 ? 0.6 : 0.97;
        }

        String next() {
            int choice = random.nextInt(24);
            if (choice < 2) {
                squares();
            } else if (choice == 2) {
                powers();
            } else {
                int tokens = 2 + random.nextInt(random.nextInt(3) == 0 ? 23 : 9);
                for (int token = 0; token < tokens - spoons.size() - 1; token++) {
                    add();
                }
                while (!spoons.isEmpty()) {
                    store();
                }
            }
            if (random.nextInt(6) == 0 && text.length() > 0) {
                spoil();
            }
            return text.length() > 60 ? text.substring(0, 60) : text.toString();
        }

        /** Broth that comes near to 0, or as far from it as it can, in few rounds. */
        private void squares() {
            char letter = letter(true);
            text.append(letter).append(letter).append('*');
            int more = random.nextInt(7);
            for (int factor = 0; factor < more; factor++) {
                text.append(letter).append('*');
            }
            if (random.nextInt(3) == 0) {
                text.append("0~1~-*");
            }
            text.append('=').append(letter);
        }

        /** Drams near to the most that are reckoned, or beyond. */
        private void powers() {
            String base = random.nextInt(3) == 0 ? "99" : "10";
            text.append(random.nextBoolean() ? base : "00" + base + "-");
            int factors = 2 + random.nextInt(4);
            for (int factor = 0; factor < factors; factor++) {
                text.append(factor == 0 ? letter(false) + "1-*" : "").append(base).append('*');
            }
            text.append(random.nextInt(40)).append("+-".charAt(random.nextInt(2)));
            text.append("~=").append(letter(true));
        }

        private void add() {
            int size = spoons.size();
            int choice = random.nextInt(10);
            if (size == 0 || choice < 4 && size < 5) {
                lay();
            } else if (choice < 7 && size >= 2) {
                if (spoons.get(size - 1).equals(spoons.get(size - 2)) || random.nextDouble() > care) {
                    text.append("+-*".charAt(random.nextInt(3)));
                    spoons.remove(size - 1);
                } else {
                    cast();
                }
            } else if (choice == 9) {
                store();
            } else if (random.nextInt(3) == 0) {
                cast();
            } else if (size < 5) {
                lay();
            }
        }

        private void lay() {
            if (random.nextInt(3) == 0) {
                text.append(random.nextInt(random.nextBoolean() ? 10 : 100));
                spoons.add(false);
            } else {
                char letter = letter(random.nextBoolean());
                text.append(letter);
                spoons.add(isBroth(letter));
            }
        }

        private void cast() {
            int last = spoons.size() - 1;
            boolean toBroth = random.nextDouble() < care != spoons.get(last);
            text.append(toBroth ? '~' : '!');
            spoons.set(last, toBroth);
        }

        private void store() {
            boolean kind = spoons.remove(spoons.size() - 1);
            text.append('=').append(letter(random.nextDouble() < care == kind));
        }

        private boolean isBroth(char letter) {
            return letter - 'a' < model.account(0) && model.cauldronOf(letter - 'a', 0) == 1;
        }

        private char letter(boolean ofBroth) {
            int cauldrons = model.account(0);
            if (cauldrons == 0 || random.nextInt(60) == 0) {
                return (char) ('a' + random.nextInt(6));
            }
            char letter = 'a';
            for (int tries = 0; tries < 12; tries++) {
                letter = (char) ('a' + random.nextInt(cauldrons));
                if (isBroth(letter) == ofBroth) {
                    return letter;
                }
            }
            return letter;
        }

        private void spoil() {
            int index = random.nextInt(text.length());
            String signs = "abcdefgAF0129+-*~!= /:";
            char sign = signs.charAt(random.nextInt(signs.length()));
            switch (random.nextInt(3)) {
                case 0 -> text.setCharAt(index, sign);
                case 1 -> text.insert(index, sign);
                default -> text.deleteCharAt(index);
            }
        }
    }
}
