import java.lang.reflect.InvocationTargetException;
import java.lang.reflect.Method;
import java.lang.reflect.Modifier;
import java.util.ArrayList;
import java.util.Arrays;
import java.util.Comparator;
import java.util.List;
import java.util.Random;

/** Long runs of calls, right ones and wrong ones, each answered by the program and by the oracle alike. */
public final class OracleTest {
    private static final int OBJECTS = 400;
    private static final int CALLS = 512;

    private final Random random;
    private final PuppetHeirs program = new PuppetHeirs();
    private final Oracle oracle = new Oracle();
    private final List<String> run = new ArrayList<>();
    private final List<Method> methods = new ArrayList<>();
    private int calls;

    private OracleTest(long seed) {
        random = new Random(seed);
        for (Method m : PuppetHeirs.class.getDeclaredMethods()) {
            if (Modifier.isPublic(m.getModifiers())) methods.add(m);
        }
        methods.sort(Comparator.comparing(Method::getName));
    }

    public static void main(String[] args) throws Exception {
        int objects = args.length > 0 ? Integer.parseInt(args[0]) : OBJECTS;
        long from = args.length > 1 ? Long.parseLong(args[1]) : 1;
        int[] asked = new int[3];
        for (long seed = from; seed < from + objects; seed++) {
            OracleTest t = new OracleTest(seed);
            if (!t.isAlike(asked)) {
                System.out.println("seed " + seed + ":");
                for (String line : t.run.subList(Math.max(0, t.run.size() - 60), t.run.size())) System.out.println("  " + line);
                System.exit(1);
            }
        }
        System.out.println("alike: " + asked[0] + " answers, " + asked[1] + " refusals, " + asked[2] + " texts without fault");
    }

    private boolean isAlike(int[] asked) throws Exception {
        if (!tell("family", family(), asked)) return false;
        while (calls < CALLS - 40) {
            int dice = random.nextInt(100);
            boolean alike;
            if (dice == 0) alike = tell("family", family(), asked);
            else if (dice == 1) alike = tell("law", spoil(sum(0)), asked);
            else if (dice == 2) alike = tell("book", book(), asked);
            else alike = call(methods.get(random.nextInt(methods.size())), asked);
            if (!alike) return false;
        }
        return true;
    }

    private boolean tell(String what, String text, int[] asked) throws Exception {
        run.add(what + " '" + text + "'");
        int n = Math.min(text.length(), what.equals("family") ? 600 : 150);
        // an empty tape first: a text of no bytes is a book without lines
        if (!call("book", asked, 0)) return false;
        for (int at = 0; at < n; at += 20) {
            int[] five = new int[5];
            for (int i = 0; i < 20; i++) {
                int b = at + i < n ? text.charAt(at + i) & 255 : random.nextInt(256);
                five[i / 4] = five[i / 4] << 8 | b;
            }
            if (!call("feed", asked, five)) return false;
        }
        if (!call(what, asked, n) || !call("fault", asked)) return false;
        if (program.fault() == -1) asked[2]++;
        return true;
    }

    private boolean call(String name, int[] asked, int... args) throws Exception {
        Class<?>[] types = new Class<?>[args.length];
        Arrays.fill(types, int.class);
        return isSame(PuppetHeirs.class.getMethod(name, types), args, asked);
    }

    private boolean call(Method m, int[] asked) throws Exception {
        String name = m.getName();
        boolean rare = name.equals("family") || name.equals("law") || name.equals("book") || name.equals("feed");
        if (rare && random.nextInt(10) > 0) return true;
        if (name.equals("dies") && random.nextInt(4) > 0) return true;
        int[] args = new int[m.getParameterCount()];
        for (int i = 0; i < args.length; i++) args[i] = argument(name, i);
        return isSame(m, args, asked);
    }

    private int argument(String name, int i) {
        int dice = random.nextInt(100);
        if (dice == 0) return new int[] {Integer.MIN_VALUE, Integer.MAX_VALUE, -1, 1000, 999, 600, 61, 41, 17}[random.nextInt(9)];
        if (dice < 4) return random.nextInt(70) - 3;
        switch (name) {
            case "feed": return random.nextInt();
            case "years": case "undo": return 1 + random.nextInt(random.nextInt(4) == 0 ? 60 : 3);
            case "ahead": return i == 0 ? random.nextInt(8) : random.nextInt(30);
            case "string": return i == 0 ? random.nextInt(8) : 1 + random.nextInt(12);
            case "dropped": return i == 0 ? random.nextInt(8) : random.nextInt(16);
            case "fair": return random.nextInt(20);
            case "gets": return i == 0 ? random.nextInt(9) : i == 1 ? random.nextInt(120) : random.nextInt(2);
            case "slack": return random.nextInt(32);
            case "fates": return new int[] {random.nextInt(), random.nextInt(17), 1 + random.nextInt(12), random.nextInt(4)}[i];
            case "span": return new int[] {random.nextInt(), 1 + random.nextInt(5), random.nextInt(5),
                1 + random.nextInt(12), random.nextInt(3), random.nextInt(9)}[i];
            case "act": case "casts": case "lacking": case "thumbs": case "last": case "both": return random.nextInt(4);
            case "cast": return random.nextInt(i == 0 ? 4 : 8);
            default: return random.nextInt(8);
        }
    }

    private boolean isSame(Method m, int[] args, int[] asked) throws Exception {
        calls++;
        Object[] boxed = Arrays.stream(args).boxed().toArray();
        String got = answer(m, program, boxed);
        String want = answer(Oracle.class.getDeclaredMethod(m.getName(), m.getParameterTypes()), oracle, boxed);
        run.add(m.getName() + Arrays.toString(args) + " answered " + got + ", oracle " + want);
        asked[want.startsWith("throws") ? 1 : 0]++;
        return got.equals(want);
    }

    private static String answer(Method m, Object of, Object[] args) throws Exception {
        try {
            return String.valueOf(m.invoke(of, args));
        } catch (InvocationTargetException e) {
            return "throws " + e.getCause().getClass().getName();
        }
    }

    private String blank() {
        return random.nextInt(6) == 0 ? "  " : " ";
    }

    private String family() {
        StringBuilder s = new StringBuilder();
        int hands = random.nextInt(10);
        int puppets = random.nextInt(9);
        boolean young = random.nextBoolean();
        for (int i = 0; i < hands; i++) {
            int born = random.nextInt(3) > 0 ? 0 : random.nextInt(young ? 5 : 41);
            int death = random.nextInt(3) == 0 ? 0 : born + 1 + random.nextInt(young ? 8 : 60 - born);
            s.append("hand").append(blank()).append(random.nextInt(10)).append(' ').append(born).append(blank()).append(Math.min(60, death)).append(";");
        }
        for (int i = 0; i < puppets; i++) {
            s.append("puppet ").append(random.nextInt(16)).append(' ').append(1 + random.nextInt(2)).append(' ').append(random.nextInt(31)).append(";");
        }
        int more = random.nextInt(24);
        boolean careless = random.nextInt(4) == 0;
        int[] workers = new int[8];
        java.util.Set<String> pairs = new java.util.HashSet<>();
        for (int i = 0; i < more && hands > 0 && puppets > 0; i++) {
            int h = random.nextInt(hands);
            int g = random.nextInt(hands);
            int p = random.nextInt(puppets);
            switch (random.nextInt(careless ? 7 : 6)) {
                case 0: case 1:
                    if (careless || tidy(s.toString(), "works " + h + " " + p + ";")) s.append("works ").append(h).append(blank()).append(p).append(";");
                    break;
                case 2: if (tidy(s.toString(), "quarrel " + h + " " + p + ";")) s.append("quarrel ").append(h).append(' ').append(p).append(" ;"); break;
                case 3: if (h != g || careless) s.append("silent ").append(h).append(' ').append(g).append(";"); break;
                case 4: if (h != g || careless) s.append("owes ").append(h).append(' ').append(g).append(' ').append(random.nextInt(99) + 1).append(";"); break;
                case 5: act(s, puppets); break;
                default: s.append("wear ").append(random.nextInt(11)).append(";");
            }
        }
        if (random.nextInt(3) == 0) s.append("wear ").append(random.nextInt(10)).append(" ; ");
        return spoil(s.toString());
    }

    private static boolean tidy(String text, String clause) {
        try {
            new Oracle.Told(text + clause);
            return true;
        } catch (Oracle.Fault f) {
            return false;
        }
    }

    private void act(StringBuilder s, int puppets) {
        List<Integer> all = new ArrayList<>();
        for (int p = 0; p < puppets; p++) all.add(p);
        java.util.Collections.shuffle(all, random);
        s.append("act ").append(random.nextInt(random.nextInt(3) == 0 ? 10 : 3));
        int most = random.nextInt(10) == 0 ? puppets : Math.min(6, puppets);
        int n = 1 + random.nextInt(most);
        for (int p : all.subList(0, n)) s.append(blank()).append(p);
        s.append(" end;");
    }

    private String sum(int open) {
        StringBuilder s = new StringBuilder(product(open));
        while (random.nextInt(3) == 0) s.append(random.nextBoolean() ? " + " : "-").append(product(open));
        return s.toString();
    }

    private String product(int open) {
        StringBuilder s = new StringBuilder(unit(open));
        while (random.nextInt(4) == 0) s.append("*/%".charAt(random.nextInt(3))).append(unit(open));
        return s.toString();
    }

    private String unit(int open) {
        int dice = random.nextInt(open > 7 ? 12 : 16);
        if (dice < 2) return "" + random.nextInt(random.nextInt(20) == 0 ? 1100 : 20);
        if (dice < 12) return new String[] {"limp", "fall", "age", "works", "strings", "year", "number", "puppet", "kin", "kin*9"}[dice - 2];
        if (dice < 14) return "(" + sum(open + 1) + ")";
        return (dice == 14 ? "least[" : "most [ ") + sum(open + 1) + "," + sum(open + 1) + " ]";
    }

    private String book() {
        StringBuilder s = new StringBuilder();
        int n = random.nextInt(random.nextInt(5) == 0 ? 15 : 4);
        for (int i = 0; i < n; i++) {
            int y = 1 + random.nextInt(random.nextBoolean() ? 60 : 6);
            int p = random.nextInt(8);
            // mostly lines that are right, so that more than the first counts
            int h = random.nextInt(9);
            Oracle.World w = new Oracle.World(oracle.told, oracle.law);
            for (int k = 0; k < y; k++) w.pass();
            if (p < w.strings.length && !w.workers(p).isEmpty() && random.nextInt(6) > 0) h = w.workers(p).get(0);
            s.append(y).append(blank()).append(p).append(' ').append(h).append(";");
        }
        return random.nextInt(4) == 0 ? spoil(s.toString()) : s.toString();
    }

    private String spoil(String text) {
        if (text.isEmpty() || random.nextInt(5) > 0) return text;
        int at = random.nextInt(text.length());
        String[] put = {"", "", " ", ";", "9", "-", "x", "[", "(", "99999999999999999999", "hand 1 0 0;", "\u00e9", "end", "0", "\n"};
        int cut = random.nextInt(3);
        return text.substring(0, at) + put[random.nextInt(put.length)] + text.substring(Math.min(text.length(), at + cut));
    }
}
