import java.util.NoSuchElementException;

/** What the tests share: texts are fed, answers compared, refusals expected. */
final class Check {
    interface Call {
        int answer();
    }

    private int wrong;

    /** The call's answer; the exceptions of the document as numbers that no call answers. */
    static final int NO_ELEMENT = Integer.MIN_VALUE + 1;
    static final int NO_ARGUMENT = Integer.MIN_VALUE + 2;

    void due(int promise, String what, int want, Call call) {
        int got;
        try {
            got = call.answer();
        } catch (NoSuchElementException e) {
            got = e.getClass() == NoSuchElementException.class ? NO_ELEMENT : -77777;
        } catch (IllegalArgumentException e) {
            got = e.getClass() == IllegalArgumentException.class ? NO_ARGUMENT : -77777;
        }
        if (got != want) {
            wrong++;
            System.out.println("promise " + promise + ": " + what + " answered " + named(got) + ", due is " + named(want));
        }
    }

    private static String named(int answer) {
        return answer == NO_ELEMENT ? "NoSuchElementException" : answer == NO_ARGUMENT ? "IllegalArgumentException" : "" + answer;
    }

    void end() {
        System.out.println(wrong == 0 ? "all answers are as due" : wrong + " answers are not as due");
        if (wrong != 0) System.exit(1);
    }

    /** Feeds a text, padded with zeros: how many bytes the text itself has. */
    static int feed(PuppetHeirs x, String text) {
        for (int at = 0; at < text.length(); at += 20) {
            int[] five = new int[5];
            for (int i = 0; i < 20; i++) {
                int b = at + i < text.length() ? text.charAt(at + i) & 255 : 0;
                five[i / 4] = five[i / 4] << 8 | b;
            }
            x.feed(five[0], five[1], five[2], five[3], five[4]);
        }
        return text.length();
    }

    static int family(PuppetHeirs x, String text) {
        return x.family(feed(x, text));
    }

    static int law(PuppetHeirs x, String text) {
        return x.law(feed(x, text));
    }

    static int book(PuppetHeirs x, String text) {
        return x.book(feed(x, text));
    }

    static PuppetHeirs told(String text) {
        PuppetHeirs x = new PuppetHeirs();
        if (family(x, text) < 0) {
            throw new IllegalStateException("a text of the tests is wrong at " + x.fault() + ": " + text);
        }
        return x;
    }
}
