import java.lang.reflect.InvocationTargetException;
import java.lang.reflect.Method;
import java.lang.reflect.Modifier;
import java.util.ArrayList;
import java.util.Comparator;
import java.util.List;
import java.util.NoSuchElementException;
import java.util.Random;

/** Runs of calls, drawn by fixed seeds, on the class and on the model of the document: all answers are the same. */
final class ModelTest {
    private static final int RUNS = 1700;
    private static final int[] ODD = {Integer.MIN_VALUE, Integer.MAX_VALUE, -100000, -32, 64, 65536, 65537, 10000, -10000, 32, 600, 201, 100, 99};
    private static final String[] NAMES = {"a", "b", "c", "t", "slips", "nw", "dancers", "ballroom"};
    private static final String[] CORNERS = {"nw", "ne", "sw", "se"};
    private static final String[] TOKENS = {"hall", "slips", "dance", "unsure", "seen", "nw", "ne", "sw", "se", ";", "0", "1", "3",
        "12", "100", "101", "999", "1000", "a", "b", "c", "t", "u", "r", "tur", "ttrttr", "tttttttttttt", "ttttttttttttt", "ballroom",
        "ballrooms", "A", "-", "\n", "."};

    private static final List<String> log = new ArrayList<>();

    private ModelTest() {
    }

    public static void main(String[] args) throws ReflectiveOperationException {
        List<Method> face = face();
        List<Method> acts = new ArrayList<>();
        for (Method m : face) {
            if (List.of("call", "join", "flip").contains(m.getName())) {
                acts.add(m);
            }
        }
        int told = 0;
        for (int run = 0; run < RUNS; run++) {
            Random random = new Random(run);
            told += one(random, face, acts) ? 1 : 0;
        }
        // most runs must come to have a HALL, or little is compared
        Due.due("most runs have a HALL", told * 10 > RUNS * 8, true);
        Due.end("ModelTest");
    }

    private static List<Method> face() {
        List<Method> face = new ArrayList<>();
        for (Method m : RopeDancers.class.getDeclaredMethods()) {
            if (Modifier.isPublic(m.getModifiers())) {
                face.add(m);
            }
        }
        face.sort(Comparator.comparing(Method::getName));
        return face;
    }

    private static boolean one(Random random, List<Method> face, List<Method> acts) throws ReflectiveOperationException {
        RopeDancers x = new RopeDancers();
        Model y = new Model();
        log.clear();
        int calls = 0;
        boolean told = false;
        while (calls < 205) {
            if (calls == 0 && random.nextInt(4) > 0 || random.nextInt(90) == 0) {
                calls += newHall(random, x, y);
                told |= x.size(1) > 0;
            }
            // acts are drawn more often, that tangles go far from their rows
            List<Method> among = random.nextInt(3) == 0 ? acts : face;
            Method m = among.get(random.nextInt(among.size()));
            calls++;
            same(m, x, y, args(m, random, x));
        }
        return told;
    }

    private static int newHall(Random random, RopeDancers x, Model y) throws ReflectiveOperationException {
        String text = text(random);
        Method feed = RopeDancers.class.getMethod("feed", int.class, int.class, int.class, int.class, int.class);
        int calls = 0;
        for (int at = 0; at < text.length(); at += 20) {
            Object[] five = new Object[5];
            for (int k = 0; k < 5; k++) {
                int number = 0;
                for (int i = at + 4 * k; i < at + 4 * k + 4; i++) {
                    number = number << 8 | (i < text.length() ? text.charAt(i) & 255 : ' ');
                }
                five[k] = number;
            }
            same(feed, x, y, five);
            calls++;
        }
        log.add(text);
        same(RopeDancers.class.getMethod("hall", int.class), x, y, new Object[] {text.length()});
        same(RopeDancers.class.getMethod("trouble"), x, y, new Object[0]);
        same(RopeDancers.class.getMethod("where"), x, y, new Object[0]);
        same(RopeDancers.class.getMethod("fault"), x, y, new Object[0]);
        return calls + 4;
    }

    private static String row(Random random) {
        StringBuilder row = new StringBuilder();
        int length = 1 + random.nextInt(12);
        boolean wide = random.nextBoolean();
        for (int i = 0; i < length; i++) {
            row.append(wide ? "ttr".charAt(random.nextInt(3)) : "tur".charAt(random.nextInt(3)));
        }
        return row.toString();
    }

    private static String text(Random random) {
        List<String> lines = new ArrayList<>();
        List<String> names = new ArrayList<>();
        List<String> rows = new ArrayList<>();
        lines.add("hall slips " + List.of(0, 100, 50, random.nextInt(101)).get(random.nextInt(4)));
        int tries = 1 + random.nextInt(20);
        for (int i = 0; i < tries; i++) {
            String line = line(random, names, rows);
            // what would be a FAULT is told now and then only
            if (told(lines, line) && random.nextInt(40) > 0) {
                continue;
            }
            lines.add(line);
            if (line.startsWith("dance")) {
                names.add(line.split(" ")[1]);
                rows.add(line.split(" ")[2]);
            }
        }
        StringBuilder text = new StringBuilder(String.join(random.nextInt(3) == 0 ? " ;  " : ";", lines));
        if (random.nextInt(4) == 0) {
            spoil(text, random);
        }
        text.setLength(Math.min(text.length(), 600));
        return text.toString();
    }

    private static String line(Random random, List<String> names, List<String> rows) {
        int sort = names.isEmpty() ? 0 : random.nextInt(4);
        if (sort == 0) {
            String row = rows.isEmpty() || random.nextInt(5) > 0 ? row(random) : rows.get(0);
            return "dance " + NAMES[random.nextInt(NAMES.length)] + " " + row;
        }
        int d = random.nextInt(names.size());
        int most = rows.get(d).length() + random.nextInt(40) / 39;
        if (sort == 1) {
            return "unsure " + names.get(d) + " " + random.nextInt(most);
        }
        int from = random.nextInt(4);
        int to = random.nextInt(40) == 0 ? from : from ^ 1 + random.nextInt(3);
        return "seen " + names.get(d) + " " + random.nextInt(most + 1) + " " + CORNERS[from] + " " + CORNERS[to];
    }

    /** Whether there is no room for a line of its sort, or its name or number is told already. */
    private static boolean told(List<String> lines, String line) {
        String sort = line.split(" ")[0];
        String name = line.split(" ")[1];
        int count = 0;
        for (String known : lines) {
            String[] words = known.split(" ");
            if (words[0].equals(sort)) {
                count++;
                if (words[1].equals(name) && (sort.equals("dance") || words[2].equals(line.split(" ")[2]))) {
                    return true;
                }
            }
        }
        return count >= (sort.equals("dance") ? 5 : sort.equals("unsure") ? 4 : 6);
    }

    private static void spoil(StringBuilder text, Random random) {
        int at = random.nextInt(text.length());
        switch (random.nextInt(5)) {
            case 0 -> text.setLength(at);
            case 1 -> text.setCharAt(at, (char) random.nextInt(256));
            case 2 -> text.deleteCharAt(at);
            case 3 -> text.insert(at, TOKENS[random.nextInt(TOKENS.length)]);
            default -> text.insert(at, " " + TOKENS[random.nextInt(TOKENS.length)] + " ");
        }
    }

    private static Object[] args(Method m, Random random, RopeDancers x) {
        int[][] ranges = ranges(m.getName());
        Object[] args = new Object[m.getParameterCount()];
        for (int i = 0; i < args.length; i++) {
            if (m.getParameterTypes()[i] == boolean.class) {
                args[i] = random.nextBoolean();
            } else if (random.nextInt(60) == 0) {
                args[i] = ODD[random.nextInt(ODD.length)];
            } else if (random.nextInt(25) == 0) {
                args[i] = ranges[i][random.nextInt(2)] + random.nextInt(3) - 1;
            } else {
                args[i] = ranges[i][0] + random.nextInt(ranges[i][1] - ranges[i][0] + 1);
            }
        }
        if (m.getName().startsWith("come") && random.nextInt(3) > 0) {
            near(args, random, x);
        }
        return args;
    }

    /** A fraction some figures away from a tangle, so that a row is found. */
    private static void near(Object[] args, Random random, RopeDancers x) {
        int d = (int) args[0];
        Model.Frac f = new Model.Frac(x.upper(d), x.lower(d));
        if (f.q() < 0) {
            return;
        }
        int far = random.nextInt(9);
        for (int i = 0; i < far; i++) {
            f = f.by(random.nextInt(3));
        }
        args[1] = (int) f.p();
        args[2] = (int) f.q();
    }

    private static int[][] ranges(String name) {
        int[] d = {0, 4};
        int[] n = {0, 12};
        int[] corner = {0, 3};
        return switch (name) {
            case "feed" -> new int[][] {{0, 9}, {0, 9}, {0, 9}, {0, 9}, {0, 9}};
            case "hall" -> new int[][] {{-1, 601}};
            case "end" -> new int[][] {d, corner};
            case "part" -> new int[][] {d, {0, 5}};
            case "figure", "upperAfter", "lowerAfter" -> new int[][] {d, n};
            case "goesFirst" -> new int[][] {d, corner, corner};
            case "untieAt" -> new int[][] {d, {0, 20}};
            case "come", "comeRow" -> new int[][] {d, {-9, 9}, {0, 5}};
            case "reach" -> new int[][] {{0, 7}};
            case "rungs" -> new int[][] {{1, 200}};
            case "rungUpper", "rungLower" -> new int[][] {{1, 30}, {0, 280}};
            case "colours" -> new int[][] {d, {0, 1}, {2, 99}};
            case "kinds" -> new int[][] {{1, 200}};
            case "fitAt" -> new int[][] {{0, 8}};
            case "callers", "callsBy" -> new int[][] {d, {0, 8}};
            case "bows", "rests", "rest" -> new int[][] {{0, 9}};
            case "odds" -> new int[][] {d, {0, 8}, corner, corner};
            case "untied", "mean" -> new int[][] {d, {0, 8}};
            case "drawnUpper", "drawnLower" -> new int[][] {d, {0, 65536}, n};
            case "call" -> new int[][] {d, {0, 2}};
            case "image", "back" -> new int[][] {{0, 2}};
            case "led" -> new int[][] {{0, 2}};
            case "size" -> new int[][] {{0, 6}};
            default -> new int[][] {d, d};
        };
    }

    private static void same(Method m, RopeDancers x, Model y, Object[] args) throws ReflectiveOperationException {
        StringBuilder call = new StringBuilder(m.getName());
        for (Object arg : args) {
            call.append(' ').append(arg);
        }
        log.add(call.toString());
        Object want = answer(Model.class.getMethod(m.getName(), m.getParameterTypes()), y, args);
        Object got = answer(m, x, args);
        if (!want.equals(got)) {
            System.out.println("the run: " + log);
            Due.due(call + " (" + got + " for " + want + ")", 0, 1);
            Due.end("ModelTest");
        }
        Due.due(call + ", trouble", x.trouble(), y.trouble());
    }

    private static Object answer(Method m, Object on, Object[] args) throws ReflectiveOperationException {
        try {
            return m.invoke(on, args);
        } catch (InvocationTargetException e) {
            if (e.getCause() instanceof NoSuchElementException && m.getName().equals("led")) {
                return "none";
            }
            throw e;
        }
    }
}
