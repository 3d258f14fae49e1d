import java.lang.reflect.InvocationTargetException;
import java.lang.reflect.Method;
import java.lang.reflect.Modifier;
import java.util.Arrays;
import java.util.HashMap;
import java.util.Map;
import java.util.NoSuchElementException;
import java.util.Set;
import java.util.TreeSet;

/** What the tests by sentence share: each answer is held against a sentence of the document that is cited word by word. */
abstract class Sentences {
    static final int NONE = -1;
    /** The kinds of FAULTS. */
    static final int CANNOT_STAND = 1;
    static final int NONE_SUCH = 2;
    static final int TOO_MANY = 3;

    private static final Document DOCUMENT = new Document();
    private static final Map<String, Method> METHODS = new HashMap<>();
    private static int wrong;
    private static int asked;
    private static int cited;
    private static int promise;
    private static String sentence = "no sentence yet";

    /** The object that is asked; what it answers behind its 512th call is free, so calls are counted. */
    private PuppetHeirs x = new PuppetHeirs();
    private int calls;

    static {
        for (Method m : PuppetHeirs.class.getDeclaredMethods()) {
            if (Modifier.isPublic(m.getModifiers())) METHODS.put(m.getName(), m);
        }
    }

    abstract void hold();

    // ---- sentences ----

    /** What is asked from here on is held against this sentence. */
    void against(int ofPromise, String words) {
        promise = ofPromise;
        sentence = words;
        cited++;
        if (!DOCUMENT.cite(ofPromise, words)) fail("the document has no such words");
    }

    void fail(String why) {
        wrong++;
        System.out.println("promise " + promise + ", \"" + sentence + "\": " + why);
    }

    /** Ends the tests: every word of the document must have been cited. */
    static void end() {
        for (String words : DOCUMENT.uncited()) {
            wrong++;
            System.out.println("no test cites " + words);
        }
        System.out.println(wrong == 0 ? asked + " answers are as due, held against " + cited + " sentences" : wrong + " faults");
        if (wrong != 0) System.exit(1);
    }

    // ---- calls ----

    void fresh() {
        x = new PuppetHeirs();
        calls = 0;
    }

    void is(int want, String name, int... args) {
        isAnswer("" + want, name, args);
    }

    /** Refused, which counts and changes nothing that status() tells besides. */
    void noElement(String name, int... args) {
        refused("NoSuchElementException", 0, name, args);
    }

    void noArgument(String name, int... args) {
        refused("IllegalArgumentException", 1, name, args);
    }

    private void refused(String exception, int kind, String name, int... args) {
        int refused = answer("status", kind);
        int others = answer("status", 1 - kind);
        isAnswer(exception, name, args);
        is(refused + 1, "status", kind);
        is(others, "status", 1 - kind);
    }

    private void isAnswer(String want, String name, int... args) {
        asked++;
        String got = call(name, args);
        if (!got.equals(want)) fail(name + Arrays.toString(args) + " answered " + got + ", due is " + want);
    }

    /** The answer of a call that must not be refused. */
    int answer(String name, int... args) {
        String got = call(name, args);
        if (got.endsWith("Exception")) {
            fail(name + Arrays.toString(args) + " was refused");
            return Integer.MIN_VALUE;
        }
        return Integer.parseInt(got);
    }

    /** The answer as a text, the name of the exception if the call throws one. */
    String call(String name, int... args) {
        calls++;
        if (calls > 512) throw new IllegalStateException("more than 512 calls of one object, against " + sentence);
        Object[] boxed = Arrays.stream(args).boxed().toArray();
        try {
            Object got = METHODS.get(name).invoke(x, boxed);
            return got instanceof Boolean b ? b ? "1" : "0" : String.valueOf(got);
        } catch (InvocationTargetException e) {
            Class<?> thrown = e.getCause().getClass();
            boolean promised = thrown == NoSuchElementException.class || thrown == IllegalArgumentException.class;
            return promised ? thrown.getSimpleName() : "the unpromised " + thrown.getName();
        } catch (IllegalAccessException e) {
            throw new IllegalStateException(e);
        }
    }

    static Set<String> names() {
        return new TreeSet<>(METHODS.keySet());
    }

    /** The calls that the face lets throw this exception. */
    static Set<String> namesThatThrow(String exception) {
        Set<String> names = new TreeSet<>();
        for (Method m : METHODS.values()) {
            for (Class<?> thrown : m.getExceptionTypes()) {
                if (thrown.getSimpleName().equals(exception)) names.add(m.getName());
            }
        }
        return names;
    }

    // ---- texts ----

    /** Brings a text to the tape, with zeros behind it: how many bytes the text has. */
    int feed(String text) {
        for (int at = 0; at < text.length(); at += 20) {
            int[] five = new int[5];
            for (int i = 0; i < 20; i++) {
                int b = at + i < text.length() ? text.charAt(at + i) & 255 : 0;
                five[i / 4] = five[i / 4] << 8 | b;
            }
            call("feed", five);
        }
        return text.length();
    }

    /** A new object with this family. */
    void told(String text) {
        fresh();
        family(text);
    }

    void family(String text) {
        if (answer("family", feed(text)) < 0) fail("a fault at " + call("fault") + " of '" + text + "'");
    }

    void law(String text) {
        if (answer("law", feed(text)) != 1) fail("a fault at " + call("fault") + " of '" + text + "'");
    }

    void book(String text) {
        if (answer("book", feed(text)) < 0) fail("a fault at " + call("fault") + " of '" + text + "'");
    }

    /** A new object reads this family without fault. */
    void fine(int puppets, String text) {
        fresh();
        read("family", text, puppets, NONE);
    }

    /** A new object finds a fault in this family, where ^ stands (which is not of the text). */
    void fault(int kind, String marked) {
        fresh();
        faultOf("family", kind, marked);
    }

    void lawFault(int kind, String marked) {
        faultOf("law", kind, marked);
    }

    void bookFault(int kind, String marked) {
        faultOf("book", kind, marked);
    }

    private void faultOf(String what, int kind, String marked) {
        int place = marked.indexOf('^');
        if (place < 0) fail("no place is told in '" + marked + "'");
        read(what, marked.substring(0, place) + marked.substring(place + 1), kind - 10, place);
    }

    void read(String what, String text, int want, int place) {
        asked++;
        String got = call(what, feed(text));
        String at = call("fault");
        if (!got.equals("" + want) || !at.equals("" + place)) {
            fail(what + " '" + text + "' answered " + got + " with the fault at " + at + ", due is " + want + " and " + place);
        }
    }

    // ---- all that an object keeps ----

    static final String RICH = "hand 5 0 0;hand 3 0 2;hand 8 0 0;hand 2 1 0;puppet 4 1 10;puppet 9 2 6;puppet 0 1 3;"
        + "works 0 0;works 1 1;works 2 1;works 1 2;quarrel 0 1;silent 0 2;act 3 0 1 end;act 5 2 end;"
        + "owes 0 1 9;owes 1 0 4;wear 2;";

    /** A new object of which everything is in use: years, a law, a book, two images, refusals, a fault, the tape. */
    void rich() {
        told(RICH);
        law("limp*2-works*3+kin+year");
        book("2 1 3;2 2 2;1 2 1;");
        answer("image");
        answer("years", 1);
        answer("image");
        answer("years", 2);
        answer("law", feed("7 7"));
        call("hand", 99, 0);
        call("told", 99);
        call("told", -1);
        feed("hand 1 0 0;wear 3;  ");
    }

    /** All that a rich object keeps, drawn out of it to the last; the object is used up by this. */
    String drawn(boolean withTape) {
        StringBuilder all = new StringBuilder();
        if (withTape) draw(all, "fault");
        if (withTape) draw(all, "count", 1);
        drawStanding(all);
        for (int p = 0; p < answer("told", 1); p++) {
            for (int h = 0; h < answer("told", 0); h++) draw(all, "score", p, h);
        }
        draw(all, "right");
        draw(all, "undo", 1);
        drawStanding(all);
        draw(all, "undo", 60);
        draw(all, "told", 3);
        draw(all, "restore");
        drawStanding(all);
        draw(all, "restore");
        drawStanding(all);
        if (withTape) {
            draw(all, "family", 18);
            draw(all, "told", 0);
        }
        return all.toString();
    }

    private void drawStanding(StringBuilder all) {
        for (int what = 0; what <= 6; what++) draw(all, "told", what);
        draw(all, "count", 0);
        draw(all, "count", 2);
        int hands = answer("told", 0);
        int puppets = answer("told", 1);
        for (int h = 0; h < hands; h++) {
            for (int what : new int[] {0, 2, 3, 4, 5}) draw(all, "hand", h, what);
            for (int p = 0; p < puppets; p++) draw(all, "since", h, p);
            draw(all, "chose", h);
            draw(all, "net", h);
        }
        for (int p = 0; p < puppets; p++) {
            for (int what = 0; what <= 5; what++) draw(all, "puppet", p, what);
        }
        for (int a = 0; a < answer("told", 2); a++) draw(all, "act", a, 1);
    }

    private void draw(StringBuilder all, String name, int... args) {
        all.append(name).append(Arrays.toString(args)).append(' ').append(call(name, args)).append('\n');
    }

    private static final Map<Boolean, String> UNTOUCHED = new HashMap<>();

    /** What a rich object keeps must be as if the calls since rich() had not been. */
    void isUntouched(boolean withTape, String what) {
        asked++;
        String got = drawn(withTape);
        if (!UNTOUCHED.containsKey(withTape)) {
            rich();
            UNTOUCHED.put(withTape, drawn(withTape));
        }
        String[] due = UNTOUCHED.get(withTape).split("\n");
        String[] lines = got.split("\n");
        for (int i = 0; i < Math.max(due.length, lines.length); i++) {
            String a = i < lines.length ? lines[i] : "nothing";
            String b = i < due.length ? due[i] : "nothing";
            if (!a.equals(b)) {
                fail(what + " changed line " + i + " of what is kept: " + a + ", due is " + b);
                return;
            }
        }
    }
}
