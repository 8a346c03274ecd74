import java.lang.reflect.InvocationTargetException;
import java.lang.reflect.Method;
import java.util.ArrayList;
import java.util.Arrays;
import java.util.Comparator;
import java.util.List;
import java.util.Random;

/** Random runs of calls, answered by MiddleScale and by the plain Model alike. */
public final class ModelTest {
    private static final String[] BYTES = {"things", "scale", "three", "four", "two", "weight", "note", "rose", ";", " ",
        "0", "1", "2", "3", "4", "5", "6", "7", "12", "99", "100", "999", "1000", "0001", "x", "A", "-1", "\t", "thing"};

    /** What later calls answer is free. */
    private static final int MOST_CALLS = 512;

    private final Random random;
    private final Due due;
    private final List<Method> face = new ArrayList<>();
    private final int run;
    private final int mostThings;
    private final MiddleScale real = new MiddleScale();
    private final Model model = new Model();
    private final List<String> done = new ArrayList<>();
    private int things = 3;
    private int scales = 0;

    private ModelTest(int run, Due due, int mostThings) {
        this.run = run;
        this.due = due;
        this.mostThings = mostThings;
        random = new Random(run);
        for (Method m : MiddleScale.class.getDeclaredMethods()) {
            if (java.lang.reflect.Modifier.isPublic(m.getModifiers())) {
                face.add(m);
            }
        }
        face.sort(Comparator.comparing(Method::getName));
    }

    public static void main(String[] args) {
        Due due = new Due();
        int runs = args.length > 0 ? Integer.parseInt(args[0]) : 1;
        for (int run = 0; run < 400 * runs; run++) {
            new ModelTest(run, due, run % 8 == 7 ? 5 : 4).play(200);
        }
        for (int run = 0; run < 12 * runs; run++) {
            new ModelTest(100000 + run, due, 6).play(50);
        }
        for (int run = 0; run < 8 * runs; run++) {
            new ModelTest(200000 + run, due, 7).play(30);
        }
        due.end();
    }

    private void play(int calls) {
        if (random.nextInt(4) > 0) {
            call("things", mostThings);
        }
        while (random.nextInt(6) > 0) {
            call("scale", random.nextInt(3), random.nextInt(100), random.nextInt(3) / 2 * random.nextInt(4));
        }
        while (random.nextInt(4) > 0) {
            call("weight", random.nextInt(mostThings), random.nextInt(30));
        }
        for (int i = 0; i < calls; i++) {
            int dice = random.nextInt(10);
            if (dice == 0) {
                tellText();
            } else if (dice == 1) {
                tellRow();
            } else if (dice < 4) {
                addNote();
            } else {
                any();
            }
        }
    }

    private void any() {
        Method m = face.get(random.nextInt(face.size()));
        boolean dear = Arrays.asList("byNext", "mean", "where", "cheapest", "fewest", "tree", "played", "proof")
            .contains(m.getName());
        if (mostThings > 5 && dear && random.nextInt(4) > 0 || m.getName().equals("things") && random.nextInt(3) > 0) {
            return;
        }
        Object[] args = new Object[m.getParameterCount()];
        for (int i = 0; i < args.length; i++) {
            args[i] = m.getParameterTypes()[i] == boolean.class ? (Object) random.nextBoolean() : (Object) number(m, i);
        }
        call(m.getName(), args);
    }

    private int number(Method m, int i) {
        String name = m.getName();
        boolean set = i == 0 && (name.equals("may") || name.equals("votes"))
            || i == 1 && (name.equals("rises") || name.equals("laying") || name.equals("note"));
        if (random.nextInt(40) == 0) {
            return new int[] {Integer.MIN_VALUE, Integer.MAX_VALUE, -1, -2, 32, 33, 64, 100, 1000}[random.nextInt(9)];
        }
        if (name.equals("feed") || name.equals("played") && i == 2) {
            return random.nextInt();
        }
        if (name.equals("played") && i == 1) {
            return random.nextInt(102) - 1;
        }
        if (name.equals("things")) {
            return 2 + random.nextInt(mostThings - 1);
        }
        if (set) {
            return randomSet(2 + random.nextInt(3));
        }
        return random.nextInt(random.nextInt(5) == 0 ? 130 : 8) - 1;
    }

    private int randomSet(int size) {
        int set = 0;
        for (int tries = 0; tries < 50 && Integer.bitCount(set) < size; tries++) {
            set |= 1 << random.nextInt(random.nextInt(12) == 0 ? 8 : Math.max(things, 3));
        }
        return set;
    }

    private void addNote() {
        if (scales == 0) {
            call("scale", random.nextInt(3), random.nextInt(100), random.nextInt(4));
            return;
        }
        int set = randomSet(2 + random.nextInt(3));
        int rose = random.nextInt(7);
        for (int tries = 0; tries < 50 && (set >> rose & 1) == 0; tries++) {
            rose = random.nextInt(7);
        }
        // Mostly notes that fit the weights: else few rows are ever left.
        int scale = random.nextInt(scales);
        if (random.nextInt(5) > 0) {
            try {
                rose = model.rises(scale, set);
            } catch (RuntimeException e) {
                rose = 0;
            }
        }
        call("note", scale, set, rose);
    }

    private void tellRow() {
        StringBuilder b = new StringBuilder();
        List<Integer> row = new ArrayList<>();
        for (int t = 0; t < things; t++) {
            row.add(random.nextInt(row.size() + 1), t);
        }
        row.forEach(b::append);
        if (random.nextInt(6) == 0) {
            b.setCharAt(random.nextInt(b.length()), (char) (47 + random.nextInt(10)));
        }
        if (random.nextInt(10) == 0) {
            b.append(random.nextInt(9));
        }
        int kind = random.nextInt(4);
        if (kind >= 2) {
            b.setLength(random.nextInt(3));
        }
        tell(b.toString());
        if (kind == 0) {
            call("fits");
        } else if (kind == 1) {
            call("nearly");
        } else {
            call("tree", random.nextInt(scales + 1), random.nextBoolean());
        }
    }

    private String blanks() {
        return " ".repeat(random.nextInt(3) / 2 * random.nextInt(3));
    }

    private String line() {
        StringBuilder b = new StringBuilder(blanks());
        int kind = random.nextInt(7);
        if (kind == 0) {
            b.append("things ").append(3 + random.nextInt(mostThings - 2));
        } else if (kind == 1) {
            b.append("scale ").append(new String[] {"three", "four", "two"}[random.nextInt(3)]).append(blanks())
                .append(random.nextInt(101)).append(' ').append(random.nextInt(9) / 2);
        } else if (kind < 4) {
            b.append("weight").append(blanks()).append(random.nextInt(things + 1)).append(' ').append(random.nextInt(1010));
        } else {
            int scale = random.nextInt(scales + 1);
            int set = randomSet(2 + random.nextInt(3));
            b.append("note ").append(scale);
            for (int t = 0; t < 8; t++) {
                b.append((set >> t & 1) == 1 ? " " + t : "");
            }
            b.append(blanks()).append("rose ").append(random.nextInt(things));
        }
        return b.append(blanks()).toString();
    }

    private void tellText() {
        StringBuilder b = new StringBuilder();
        int lines = random.nextInt(12) == 0 ? 11 + random.nextInt(4) : random.nextInt(4);
        for (int i = 0; i < lines; i++) {
            b.append(i > 0 ? ";" : "").append(lines > 10 ? "weight 0 " + i : line());
        }
        if (random.nextInt(3) == 0) {
            int at = random.nextInt(b.length() + 1);
            b.insert(at, BYTES[random.nextInt(BYTES.length)]);
        }
        if (random.nextInt(6) == 0) {
            b.setLength(random.nextInt(b.length() + 1));
        }
        tell(b.toString());
        call("shed");
        call("fault");
    }

    private void tell(String text) {
        call("end", 0);
        byte[] bytes = Arrays.copyOf(text.getBytes(java.nio.charset.StandardCharsets.ISO_8859_1),
            (text.length() + 19) / 20 * 20);
        java.nio.IntBuffer ints = java.nio.ByteBuffer.wrap(bytes).asIntBuffer();
        while (ints.remaining() >= 5) {
            call("feed", ints.get(), ints.get(), ints.get(), ints.get(), ints.get());
        }
        call("end", text.length());
    }

    private void call(String name, Object... args) {
        if (done.size() >= MOST_CALLS) {
            return;
        }
        String got = answer(real, name, args);
        String want = answer(model, name, args);
        String told = name + Arrays.toString(args);
        done.add(told + " = " + want);
        if (!got.equals(want)) {
            System.out.println(String.join("\n", done));
        }
        due.is("run " + run + " call " + done.size() + ": " + told, got, want);
        things = model.count(0);
        scales = model.count(1);
    }

    private static String answer(Object on, String name, Object[] args) {
        for (Method m : on.getClass().getDeclaredMethods()) {
            if (m.getName().equals(name) && m.getParameterCount() == args.length
                && !java.lang.reflect.Modifier.isPrivate(m.getModifiers())) {
                try {
                    return String.valueOf(m.invoke(on, args));
                } catch (InvocationTargetException e) {
                    return "throws." + e.getCause().getClass().getSimpleName();
                } catch (IllegalAccessException e) {
                    return "no access";
                }
            }
        }
        return "no such method";
    }
}
