import java.util.Arrays;
import java.util.Set;
import java.util.TreeSet;

/** Promises 53 to 56, and what all promises share: what is asked or refused leaves all as it was. */
final class KeepSentences extends Sentences {
    private static final int LEAST = Integer.MIN_VALUE;
    private static final int GREATEST = Integer.MAX_VALUE;
    private static final String TWO = "hand 5 0 3;hand 2 0 0;hand 2 1 0;puppet 1 1 5;puppet 2 2 4;works 0 0;wear 2;";

    /** Calls that only ask, on what rich() tells. */
    private static final String[] ASKED = {
        "fault", "told 0", "told 3", "told 6", "hand 1 3", "hand 3 5", "puppet 2 5", "act 1 2", "score 2 3", "chooses 2", "since 3 1",
        "chose 3", "ahead 2 0", "ahead 1 60", "when 3 1", "when 0 1", "last 0", "last 1", "casts 0", "casts 1", "cast 0 1", "cast 1 2",
        "lacking 0", "played", "cost 3", "cost 1", "dearest", "lies 0 1", "dropped 0 13", "right", "limps 0", "limps 3", "nights", "night 2",
        "fair 3", "gets 0 9 0", "gets 2 9 1", "owes 0 1", "net 1", "heir 0 0", "heir 1 3", "orphans", "idle", "practise 3 0", "practise 0 2",
        "mute", "slack 5", "fades 0", "fades 1", "both 0 1", "thumbs 0", "first 0", "first 1", "reach 3", "speaks", "fates 5 9 40 0",
        "fates 5 0 40 2", "span 5 20 9 40 0 0", "span 5 20 0 40 2 3", "status 0", "status 1", "status 2", "count 0", "count 1", "count 2",
        "count 3"};
    private static final String[] DONE = {"feed", "family", "law", "book", "years", "undo", "dies", "string", "give", "image", "restore"};

    private static final String[] NO_ELEMENT = {
        "hand 4 0", "hand -1 0", "puppet 3 0", "act 2 0", "score 3 0", "score 0 4", "chooses 3", "since 4 0", "since 0 3", "chose 4", "ahead 3 0",
        "when 4 0", "when 0 3", "last 2", "dies 4", "dies -1", "string 3 1", "give 3 0 1", "give 0 4 2", "give 0 0 4", "casts 2", "cast 2 0",
        "cast 0 3", "lacking 2", "cost 4", "lies 3 0", "lies 0 4", "dropped 3 0", "limps 4", "night 4", "gets 4 1 0", "owes 4 0", "owes 0 4",
        "net 4", "heir 3 0", "heir 0 4", "practise 4 0", "practise 0 3", "fades 3", "both 2 0", "both 0 2", "thumbs 2", "reach 4"};
    private static final String[] NO_ELEMENT_AHEAD = {
        "hand 4 6", "puppet 3 -1", "act 2 3", "ahead 3 61", "string 3 31", "dropped 3 16", "gets 4 1000 2", "both 2 2", "both -1 -1"};
    private static final String[] NO_ARGUMENT = {
        "family 21", "family -1", "law 21", "law 151", "book 21", "book 151", "told 7", "told -1", "hand 0 6", "puppet 0 6", "act 0 3",
        "years 0", "years 61", "undo 0", "undo 61", "ahead 0 61", "ahead 0 -1", "string 0 0", "string 0 31", "dropped 0 16", "fair 4", "fair -1",
        "gets 0 1000 0", "gets 0 -1 0", "gets 0 1 2", "both 0 0", "both 1 1", "slack 32", "slack -1", "first 2", "fates 1 17 1 0",
        "fates 1 0 41 0", "fates 1 0 1 4", "span 1 21 0 1 0 0", "span 1 1 17 1 0 0", "span 1 1 0 41 0 0", "span 1 1 0 1 3 0",
        "span 1 1 0 1 0 4", "span 1 1 0 1 2 -1"};

    @Override
    void hold() {
        asked();
        lastOfAll();
        refusedElements();
        refusedArguments();
        never();
        images();
        imagesKeep();
        restores();
        status();
        counts();
    }

    private static String nameOf(String call) {
        return call.split(" ")[0];
    }

    private static int[] argumentsOf(String call) {
        return Arrays.stream(call.split(" ")).skip(1).mapToInt(Integer::parseInt).toArray();
    }

    private void asked() {
        against(17, "Asked, nothing stays changed.");
        Set<String> names = new TreeSet<>(Arrays.asList(DONE));
        for (String asked : ASKED) {
            names.add(nameOf(asked));
            rich();
            String first = call(nameOf(asked), argumentsOf(asked));
            String again = call(nameOf(asked), argumentsOf(asked));
            if (!first.equals(again)) fail(asked + " answered " + first + ", then " + again);
            if (first.endsWith("Exception")) fail(asked + " was refused");
            isUntouched(true, asked);
        }
        if (!names.equals(names())) fail("not all calls are tried, of " + names());
    }

    /** Of nine HANDS, eight PUPPETS and six ACTS, the most that there are, the last are there in every call. */
    private void lastOfAll() {
        against(8, "no such HAND, PUPPET, ACT (so below, ahead of others).");
        StringBuilder full = new StringBuilder("hand 1 0 0;".repeat(9) + "puppet 1 1 30;".repeat(8));
        for (int p = 0; p < 8; p++) full.append("works ").append(p).append(' ').append(p).append(';');
        told(full + "act 9 7 end;".repeat(6) + "owes 8 0 99;");
        String[] due = {"fault -1", "told 0 9", "told 1 8", "told 2 6", "hand 8 3 1", "puppet 7 3 128", "act 5 1 128", "score 7 8 2",
            "chooses 7 8", "since 8 7 -1", "since 7 7 0", "chose 8 -1", "ahead 7 60 128", "when 8 7 -1", "when 7 7 1", "last 5 22", "casts 5 9",
            "cast 5 7 1", "lacking 5 0", "played 63", "cost 8 0", "dearest 0", "lies 7 8 2", "dropped 7 2 511", "right 0", "limps 8 1023",
            "nights 1", "night 8 0", "fair 63 24", "gets 8 999 0 0", "gets 7 999 0 30", "gets 7 239 1 29", "owes 8 0 99", "owes 0 8 0",
            "net 8 -99", "net 0 99", "heir 7 7 8", "heir 7 8 -1", "orphans 0", "idle 256", "practise 8 7 0", "mute 0", "slack 31 255",
            "slack 30 0", "fades 7 30", "both 0 5 0", "thumbs 5 0", "first 0 0", "first 1 0", "reach 8 128", "speaks 36",
            "fates 5 0 40 0 9", "fates 5 16 1 1 8", "fates 5 0 1 2 6", "fates 5 0 1 3 232", "span 5 20 0 40 2 8 20", "give 7 7 8 1",
            "hand 8 4 128", "string 7 1 30", "dies 8 1", "hand 8 3 2"};
        for (String line : due) {
            int[] numbers = argumentsOf(line);
            int last = numbers.length - 1;
            is(numbers[last], nameOf(line), Arrays.copyOf(numbers, last));
        }
    }

    private void refusedElements() {
        against(8, "NoSuchElementException: no such HAND, PUPPET, ACT (so below, ahead of others).");
        Set<String> names = new TreeSet<>();
        for (String refused : NO_ELEMENT) {
            names.add(nameOf(refused));
            rich();
            noElement(nameOf(refused), argumentsOf(refused));
            isUntouched(true, refused);
        }
        for (String refused : NO_ELEMENT_AHEAD) {
            rich();
            noElement(nameOf(refused), argumentsOf(refused));
            isUntouched(true, refused);
        }
        if (!names.equals(namesThatThrow("NoSuchElementException"))) fail("not all calls are tried that may be refused so");
    }

    private void refusedArguments() {
        against(7, "IllegalArgumentException: another what (so below).");
        Set<String> names = new TreeSet<>();
        for (String refused : NO_ARGUMENT) {
            names.add(nameOf(refused));
            rich();
            noArgument(nameOf(refused), argumentsOf(refused));
            isUntouched(true, refused);
        }
        if (!names.equals(namesThatThrow("IllegalArgumentException"))) fail("not all calls are tried that may be refused so");
    }

    private void never() {
        against(55, "How many calls were refused: 0 NoSuchElementException, 1 IllegalArgumentException; NONE for others.");
        // calls that the face declares without an exception are never refused
        told(TWO);
        for (int n : new int[] {-1, 0, 1, 2, 3, LEAST, GREATEST}) {
            answer("status", n);
            answer("count", n);
            answer("feed", n, n, n, n, n);
        }
        for (int i = 0; i < 5; i++) answer("image");
        for (int i = 0; i < 5; i++) answer("restore");
        for (String name : new String[] {"fault", "played", "dearest", "right", "nights", "orphans", "idle", "mute", "speaks"}) answer(name);
        is(0, "status", 0);
        is(0, "status", 1);
    }

    private void images() {
        against(53, "how many there are; -1: there are 3.");
        told(TWO);
        is(1, "image");
        answer("years", 1);
        is(2, "image");
        answer("years", 1);
        is(3, "image");
        answer("years", 4);
        is(-1, "image");
        is(-1, "image");
        is(3, "count", 0);
        is(6, "count", 2);
        // the third is still that of YEAR 2
        is(2, "restore");
        is(2, "told", 3);
        answer("years", 7);
        is(3, "image");
        is(-1, "image");
        is(2, "restore");
        is(9, "told", 3);
        is(1, "restore");
        is(1, "told", 3);
        is(0, "restore");
        is(0, "told", 3);
        is(1, "image");
        rich();
        is(3, "image");
        is(-1, "image");
        is(2, "restore");
        is(2, "count", 0);
    }

    private void imagesKeep() {
        against(53, "An IMAGE of all but the TAPE, the latest FAULT, the LAW, the BOOK:");
        told(TWO);
        answer("years", 1);
        answer("image");
        String then = standing();
        answer("dies", 0);
        answer("string", 0, 9);
        answer("give", 1, 1, 2);
        answer("years", 9);
        law("7");
        book("1 0 0;2 0 0;3 0 0;");
        call("law", feed("7 x"));
        answer("feed", 1, 2, 3, 4, 5);
        if (standing().equals(then)) fail("nothing has changed that could be restored");
        is(0, "restore");
        if (!standing().equals(then)) fail("restored is " + standing() + ", due is " + then);
        is(20, "count", 1);
        is(2, "fault");
        is(7, "score", 0, 0);
        is(3, "told", 6);
        // what is reckoned from the beginning on is by the LAW and the BOOK of now
        is(2, "right");
    }

    private String standing() {
        StringBuilder all = new StringBuilder();
        for (int what = 3; what <= 5; what++) all.append(call("told", what)).append(' ');
        for (int h = 0; h < 3; h++) {
            for (int what = 3; what <= 5; what++) all.append(call("hand", h, what)).append(' ');
            for (int p = 0; p < 2; p++) all.append(call("since", h, p)).append(' ');
            all.append(call("chose", h)).append(' ');
        }
        for (int p = 0; p < 2; p++) {
            for (int what = 2; what <= 5; what++) all.append(call("puppet", p, what)).append(' ');
        }
        return all.toString();
    }

    private void restores() {
        against(54, "All is as in the latest IMAGE, which is gone: how many are left;");
        told(TWO);
        answer("image");
        answer("years", 3);
        answer("image");
        answer("years", 1);
        is(1, "restore");
        is(1, "count", 0);
        is(3, "told", 3);
        is(2, "hand", 0, 3);
        is(0, "undo", 60);
        is(0, "restore");
        is(0, "count", 0);
        is(0, "told", 3);
        is(1, "hand", 0, 3);
        is(9, "told", 5);
        // what is lived behind it does not come from the IMAGE any more
        is(3, "years", 3);
        is(4, "puppet", 0, 3);
        is(3, "undo", 60);

        against(54, "-1: there is none.");
        fresh();
        is(-1, "restore");
        told(TWO);
        answer("years", 3);
        is(-1, "restore");
        is(3, "told", 3);
        is(3, "count", 2);
        answer("image");
        is(0, "restore");
        answer("years", 2);
        is(-1, "restore");
        is(2, "count", 2);
        answer("image");
        family(TWO);
        is(-1, "restore");
    }

    private void status() {
        against(55, "How many calls were refused: 0 NoSuchElementException, 1 IllegalArgumentException; NONE for others.");
        told(TWO);
        is(0, "status", 0);
        is(0, "status", 1);
        call("hand", 9, 9);
        is(1, "status", 0);
        is(0, "status", 1);
        call("hand", 0, 9);
        call("told", 9);
        is(1, "status", 0);
        is(2, "status", 1);
        // one call is refused once, and a fault, a -1 or a 0 is no refusal
        call("give", 9, 9, 9);
        is(2, "status", 0);
        call("span", 1, 99, 99, 99, 99, 99);
        is(3, "status", 1);
        call("family", feed("x"));
        call("law", feed("x"));
        call("book", feed("x"));
        call("restore");
        call("give", 0, 1, 0);
        for (int i = 0; i < 31; i++) call("feed", 0, 0, 0, 0, 0);
        for (int n : new int[] {-1, 2, 3, LEAST, GREATEST}) is(NONE, "status", n);
        is(2, "status", 0);
        is(3, "status", 1);
        is(0, "family", 0);
        is(2, "status", 0);
        is(3, "status", 1);

        against(55, "(No IMAGE keeps it.)");
        answer("image");
        call("hand", 9, 9);
        call("told", 9);
        is(0, "restore");
        is(3, "status", 0);
        is(4, "status", 1);
    }

    private void counts() {
        against(56, "0 IMAGES, 1 bytes of the TAPE, 2 YEARS that can be undone; NONE for others.");
        told(TWO);
        for (int what = 0; what <= 2; what++) is(0, "count", what);
        for (int i = 1; i <= 30; i++) {
            answer("feed", 0, 0, 0, 0, 0);
            is(20 * i, "count", 1);
        }
        for (int i = 1; i <= 3; i++) {
            answer("image");
            is(i, "count", 0);
        }
        answer("image");
        is(3, "count", 0);
        answer("years", 7);
        is(7, "count", 2);
        answer("undo", 2);
        is(5, "count", 2);
        for (int i = 0; i < 4; i++) answer("years", 60);
        is(200, "count", 2);
        answer("restore");
        is(2, "count", 0);
        is(0, "count", 2);
        is(600, "count", 1);
        answer("book", 0);
        is(0, "count", 1);
        for (int what : new int[] {-1, 3, LEAST, GREATEST}) is(NONE, "count", what);
    }
}
