import java.util.NoSuchElementException;

/** A family of showmen, their puppets and who works them, as ../shared/DOC.md promises it. */
public final class PuppetHeirs {
    public static final int NONE = -1;

    private static final int MOST_HANDS = 9;
    private static final int MOST_PUPPETS = 8;
    private static final int MOST_ACTS = 6;
    private static final int MOST_IN_ACT = 6;
    private static final int MOST_CLAUSES = 60;
    private static final int MOST_LINES = 12;
    private static final int MOST_OPEN = 6;
    private static final int MOST_WORKED = 3;
    private static final int MOST_STRINGS = 30;
    private static final int MOST_DEBT = 999;
    private static final int MOST_IMAGES = 3;
    private static final int MOST_WAYS = 1000000;
    private static final int LIMPS = 10;
    private static final int HAND_SETS = 1 << MOST_HANDS;
    private static final int TAPE_BYTES = 600;
    private static final int TEXT_BYTES = 150;
    private static final int LAST_YEAR = 200;
    private static final int YEARS_AT_ONCE = 60;

    private static final int CANNOT_STAND = 1;
    private static final int NONE_SUCH = 2;
    private static final int TOO_MANY = 3;

    private final Tape tape = new Tape();
    private Family family = new Family();
    private Family spareFamily = new Family();
    private Law law = new Law();
    private Law spareLaw = new Law();
    private Book book = new Book();
    private Book spareBook = new Book();
    private final State now = new State();
    /** As all was at the latest call that can't be undone; years behind it are lived again by undo(). */
    private final State base = new State();
    private int undoable;
    /** What is only asked is lived here, so that nothing stays changed. */
    private final State asked = new State();
    private final State[] images = {new State(), new State(), new State()};
    private int imageCount;
    private final Caster caster = new Caster();
    private final int[] nightOf = new int[MOST_HANDS];
    private final Seed seedOfFates = new Seed();
    private int refusedElements;
    private int refusedArguments;

    public PuppetHeirs() {
        startAnew();
    }

    // ---- texts ----

    public int feed(int a, int b, int c, int d, int e) {
        if (tape.size + 20 > TAPE_BYTES) {
            return NONE;
        }
        tape.put(a);
        tape.put(b);
        tape.put(c);
        tape.put(d);
        tape.put(e);
        return tape.size;
    }

    public int family(int n) throws IllegalArgumentException {
        requireArgument(n >= 0 && n <= tape.size);
        tape.open(n);
        if (!spareFamily.readFrom(tape)) {
            return tape.fault - 10;
        }
        Family told = spareFamily;
        spareFamily = family;
        family = told;
        startAnew();
        return family.puppets;
    }

    public int law(int n) throws IllegalArgumentException {
        requireArgument(n >= 0 && n <= tape.size && n <= TEXT_BYTES);
        tape.open(n);
        if (!spareLaw.readFrom(tape)) {
            return tape.fault - 10;
        }
        Law told = spareLaw;
        spareLaw = law;
        law = told;
        forgetYears();
        return 1;
    }

    public int book(int n) throws IllegalArgumentException {
        requireArgument(n >= 0 && n <= tape.size && n <= TEXT_BYTES);
        tape.open(n);
        if (!spareBook.readFrom(tape, family)) {
            return tape.fault - 10;
        }
        Book told = spareBook;
        spareBook = book;
        book = told;
        return book.lines;
    }

    public int fault() {
        return tape.place;
    }

    // ---- what is told and how it stands ----

    public int told(int what) throws IllegalArgumentException {
        requireArgument(what >= 0 && what <= 6);
        switch (what) {
            case 0: return family.hands;
            case 1: return family.puppets;
            case 2: return family.acts;
            case 3: return now.year;
            case 4: return Integer.bitCount(now.alive(family));
            case 5: return now.allStrings(family);
            default: return book.lines;
        }
    }

    public int hand(int hand, int what) throws NoSuchElementException, IllegalArgumentException {
        requireHand(hand);
        requireArgument(what >= 0 && what <= 5);
        switch (what) {
            case 0: return family.limp[hand];
            case 1: return family.born[hand];
            case 2: return family.death[hand];
            case 3: return now.lifeOf(family, hand);
            case 4: return now.works[hand];
            default: return now.ageOf(family, hand);
        }
    }

    public int puppet(int puppet, int what) throws NoSuchElementException, IllegalArgumentException {
        requirePuppet(puppet);
        requireArgument(what >= 0 && what <= 5);
        switch (what) {
            case 0: return family.fall[puppet];
            case 1: return family.needs[puppet];
            case 2: return now.strings[puppet];
            case 3: return now.handsOf(puppet);
            case 4: return now.lackOf(family, puppet);
            default: return now.workedLast[puppet];
        }
    }

    public int act(int act, int what) throws NoSuchElementException, IllegalArgumentException {
        requireAct(act);
        requireArgument(what >= 0 && what <= 2);
        switch (what) {
            case 0: return family.laughs[act];
            case 1: return family.puppetsOf(act);
            default: return family.needOf(family.puppetsOf(act));
        }
    }

    public int score(int puppet, int hand) throws NoSuchElementException {
        requirePuppet(puppet);
        requireHand(hand);
        return law.weigh(family, now, puppet, hand);
    }

    public int chooses(int puppet) throws NoSuchElementException {
        requirePuppet(puppet);
        return law.choiceOf(family, now, puppet);
    }

    // ---- years ----

    public int years(int n) throws IllegalArgumentException {
        requireArgument(n >= 1 && n <= YEARS_AT_ONCE);
        for (int i = 0; i < n && now.year < LAST_YEAR; i++) {
            now.liveYear(family, law);
            undoable++;
        }
        return now.year;
    }

    public int undo(int n) throws IllegalArgumentException {
        requireArgument(n >= 1 && n <= YEARS_AT_ONCE);
        int undone = Math.min(n, undoable);
        if (undone == 0) {
            return 0;
        }
        undoable -= undone;
        now.copyOf(base);
        for (int i = 0; i < undoable; i++) {
            now.liveYear(family, law);
        }
        return undone;
    }

    public int since(int hand, int puppet) throws NoSuchElementException {
        requireHand(hand);
        requirePuppet(puppet);
        return now.began[hand][puppet];
    }

    public int chose(int hand) throws NoSuchElementException {
        requireHand(hand);
        return now.chosenFirst[hand];
    }

    public int ahead(int puppet, int years) throws NoSuchElementException, IllegalArgumentException {
        requirePuppet(puppet);
        requireArgument(years >= 0 && years <= YEARS_AT_ONCE);
        asked.copyOf(now);
        for (int i = 0; i < years; i++) {
            asked.liveYear(family, law);
        }
        return asked.handsOf(puppet);
    }

    public int when(int hand, int puppet) throws NoSuchElementException {
        requireHand(hand);
        requirePuppet(puppet);
        asked.copyOf(now);
        for (int i = 0; i < YEARS_AT_ONCE; i++) {
            asked.liveYear(family, law);
            if (has(asked.works[hand], puppet)) {
                return asked.year;
            }
        }
        return NONE;
    }

    public int last(int act) throws NoSuchElementException {
        requireAct(act);
        asked.copyOf(now);
        for (int i = 0; i < YEARS_AT_ONCE; i++) {
            asked.liveYear(family, law);
            if (waysToCast(asked, act, asked.alive(family)) == 0) {
                return asked.year;
            }
        }
        return NONE;
    }

    public int dies(int hand) throws NoSuchElementException {
        requireHand(hand);
        if (!now.isAlive(family, hand)) {
            return -1;
        }
        int worked = Integer.bitCount(now.works[hand]);
        now.bury(hand);
        forgetYears();
        return worked;
    }

    public int string(int puppet, int n) throws NoSuchElementException, IllegalArgumentException {
        requirePuppet(puppet);
        requireArgument(n >= 1 && n <= MOST_STRINGS);
        now.strings[puppet] = Math.min(MOST_STRINGS, now.strings[puppet] + n);
        forgetYears();
        return now.strings[puppet];
    }

    public int give(int puppet, int hand, int other) throws NoSuchElementException {
        requirePuppet(puppet);
        requireHand(hand);
        requireHand(other);
        if (!has(now.works[hand], puppet) || !now.canTake(family, other, puppet)) {
            return 0;
        }
        now.cease(hand, puppet);
        now.begin(other, puppet);
        forgetYears();
        return 1;
    }

    // ---- casts ----

    public int casts(int act) throws NoSuchElementException {
        requireAct(act);
        return Math.min(MOST_WAYS, waysToCast(now, act, now.alive(family)));
    }

    public int cast(int act, int puppet) throws NoSuchElementException {
        requireAct(act);
        requirePuppet(puppet);
        if (waysToCast(now, act, now.alive(family)) == 0) {
            return 0;
        }
        return caster.firstSetOf(puppet);
    }

    public int lacking(int act) throws NoSuchElementException {
        requireAct(act);
        int ofAct = family.puppetsOf(act);
        int alive = now.alive(family);
        int least = 0;
        for (int set = 1; set < 1 << MOST_PUPPETS; set++) {
            boolean fewer = least == 0 || Integer.bitCount(set) < Integer.bitCount(least);
            if ((set & ~ofAct) == 0 && fewer && family.needOf(set) > handsFor(set, alive)) {
                least = set;
            }
        }
        return least;
    }

    public int played() {
        return actsPlayed(now, now.alive(family));
    }

    public int cost(int hand) throws NoSuchElementException {
        requireHand(hand);
        return costOf(hand, played());
    }

    public int dearest() {
        int played = played();
        int dearest = NONE;
        int most = NONE;
        for (int h = 0; h < family.hands; h++) {
            if (now.isAlive(family, h)) {
                int cost = costOf(h, played);
                if (cost > most) {
                    most = cost;
                    dearest = h;
                }
            }
        }
        return dearest;
    }

    public boolean both(int act, int other) throws NoSuchElementException, IllegalArgumentException {
        requireAct(act);
        requireAct(other);
        requireArgument(act != other);
        if ((family.puppetsOf(act) & family.puppetsOf(other)) != 0) {
            return false;
        }
        caster.start(now.alive(family));
        return caster.addAct(family, now, act) && caster.addAct(family, now, other)
            && caster.countWays(family) > 0;
    }

    public int thumbs(int act) throws NoSuchElementException {
        requireAct(act);
        if (waysToCast(now, act, now.alive(family)) == 0) {
            return 0;
        }
        caster.follow(0);
        return caster.inEach;
    }

    public int reach(int hand) throws NoSuchElementException {
        requireHand(hand);
        int reached = 0;
        int alive = now.alive(family);
        if (!has(alive, hand)) {
            return 0;
        }
        for (int a = 0; a < family.acts; a++) {
            if (waysToCast(now, a, alive) > 0) {
                caster.follow(hand);
                reached |= caster.worked;
            }
        }
        return reached;
    }

    // ---- dropped puppets, the book ----

    public int lies(int puppet, int hand) throws NoSuchElementException {
        requirePuppet(puppet);
        requireHand(hand);
        return lieOf(puppet, hand);
    }

    public int dropped(int puppet, int lie) throws NoSuchElementException, IllegalArgumentException {
        requirePuppet(puppet);
        requireArgument(lie >= 0 && lie <= 15);
        int hands = 0;
        for (int h = 0; h < family.hands; h++) {
            if (now.isAlive(family, h) && lieOf(puppet, h) == lie) {
                hands |= 1 << h;
            }
        }
        return hands;
    }

    public int right() {
        asked.startAsTold(family);
        return rightLines();
    }

    public int limps(int hand) throws NoSuchElementException {
        requireHand(hand);
        int limps = 0;
        for (int limp = 0; limp < LIMPS; limp++) {
            asked.startAsTold(family);
            asked.limp[hand] = limp;
            if (rightLines() == book.lines) {
                limps |= 1 << limp;
            }
        }
        return limps;
    }

    // ---- nights, strings, debts ----

    public int nights() {
        return planNights();
    }

    public int night(int hand) throws NoSuchElementException {
        requireHand(hand);
        planNights();
        return nightOf[hand];
    }

    public int fair(int acts) throws IllegalArgumentException {
        requireArgument(acts >= 0 && acts < 1 << family.acts);
        int added = 0;
        for (int p = 0; p < family.puppets; p++) {
            int laughs = 0;
            for (int a = 0; a < family.acts; a++) {
                if (has(acts, a) && has(family.puppetsOf(a), p)) {
                    laughs += family.laughs[a];
                }
            }
            added += Math.max(0, laughs - now.strings[p]);
        }
        return added;
    }

    public int gets(int hand, int e, int how) throws NoSuchElementException, IllegalArgumentException {
        requireHand(hand);
        requireArgument(e >= 0 && e <= 999 && how >= 0 && how <= 1);
        int claim = claimOf(hand);
        int claims = claimsUpTo(MOST_PUPPETS * MOST_STRINGS);
        if (claims <= e) {
            return claim;
        }
        if (how == 0) {
            return claims == 0 ? 0 : e * claim / claims;
        }
        int bound = 0;
        for (int higher = 1; higher <= e && claimsUpTo(higher) <= e; higher++) {
            bound = higher;
        }
        return Math.min(claim, bound);
    }

    public int owes(int hand, int other) throws NoSuchElementException {
        requireHand(hand);
        requireHand(other);
        return family.debts[hand][other];
    }

    public int net(int hand) throws NoSuchElementException {
        requireHand(hand);
        return netOf(hand);
    }

    // ---- puppets and hands asked for ----

    public int heir(int puppet, int hand) throws NoSuchElementException {
        requirePuppet(puppet);
        requireHand(hand);
        if (!has(now.works[hand], puppet)) {
            return NONE;
        }
        asked.copyOf(now);
        asked.bury(hand);
        return law.choiceOf(family, asked, puppet);
    }

    public int orphans() {
        return now.lackingHands(family);
    }

    public int idle() {
        int idle = 0;
        for (int h = 0; h < family.hands; h++) {
            if (now.isAlive(family, h) && now.works[h] == 0) {
                idle |= 1 << h;
            }
        }
        return idle;
    }

    public int practise(int hand, int puppet) throws NoSuchElementException {
        requireHand(hand);
        requirePuppet(puppet);
        asked.copyOf(now);
        for (int limp = 0; limp < LIMPS; limp++) {
            asked.limp[hand] = limp;
            if (law.choiceOf(family, asked, puppet) == hand) {
                return limp;
            }
        }
        return NONE;
    }

    public int mute() {
        int mute = 0;
        for (int p = 0; p < family.puppets; p++) {
            if (!family.allSpeak(now.handsOf(p))) {
                mute |= 1 << p;
            }
        }
        return mute;
    }

    public int slack(int n) throws IllegalArgumentException {
        requireArgument(n >= 0 && n <= MOST_STRINGS + 1);
        int slack = 0;
        for (int p = 0; p < family.puppets; p++) {
            if (now.strings[p] < n) {
                slack |= 1 << p;
            }
        }
        return slack;
    }

    public int fades(int puppet) throws NoSuchElementException {
        requirePuppet(puppet);
        if (now.strings[puppet] == 0) {
            return 0;
        }
        asked.copyOf(now);
        for (int i = 0; i < YEARS_AT_ONCE; i++) {
            asked.liveYear(family, law);
            if (asked.strings[puppet] == 0) {
                return asked.year;
            }
        }
        return NONE;
    }

    public int first(int what) throws IllegalArgumentException {
        requireArgument(what >= 0 && what <= 1);
        return what == 0 ? eldest() : richest();
    }

    public int speaks() {
        int alive = now.alive(family);
        int pairs = 0;
        for (int h = 0; h < family.hands; h++) {
            if (has(alive, h)) {
                int earlier = alive & ((1 << h) - 1);
                pairs += Integer.bitCount(earlier & ~family.silent[h]);
            }
        }
        return pairs;
    }

    // ---- fates ----

    public int fates(int seed, int q, int n, int what) throws IllegalArgumentException {
        requireArgument(q >= 0 && q <= 16 && n >= 1 && n <= 40 && what >= 0 && what <= 3);
        liveFates(seed, q, n);
        switch (what) {
            case 0: return Integer.bitCount(asked.alive(family));
            case 1: return Integer.bitCount(asked.lackingHands(family));
            case 2: return Integer.bitCount(actsPlayed(asked, asked.alive(family)));
            default: return asked.allStrings(family);
        }
    }

    public int span(int seed, int many, int q, int n, int what, int hand) throws IllegalArgumentException {
        requireArgument(many >= 1 && many <= 20 && q >= 0 && q <= 16 && n >= 1 && n <= 40);
        requireArgument(what >= 0 && what <= 2 && hand >= 0 && hand < family.hands);
        int fewest = MOST_HANDS;
        int most = 0;
        int survived = 0;
        for (int i = 0; i < many; i++) {
            liveFates(seed + i, q, n);
            int alive = asked.alive(family);
            fewest = Math.min(fewest, Integer.bitCount(alive));
            most = Math.max(most, Integer.bitCount(alive));
            survived += has(alive, hand) ? 1 : 0;
        }
        if (what == 0) {
            return fewest;
        }
        return what == 1 ? most : survived;
    }

    // ---- images and counts ----

    public int image() {
        if (imageCount < 0 || imageCount >= MOST_IMAGES) {
            return -1;
        }
        images[imageCount].copyOf(now);
        imageCount++;
        return imageCount;
    }

    public int restore() {
        if (imageCount <= 0 || imageCount > MOST_IMAGES) {
            return -1;
        }
        imageCount--;
        now.copyOf(images[imageCount]);
        forgetYears();
        return imageCount;
    }

    public int status(int what) {
        if (what == 0) {
            return refusedElements;
        }
        return what == 1 ? refusedArguments : NONE;
    }

    public int count(int what) {
        switch (what) {
            case 0: return imageCount;
            case 1: return tape.size;
            case 2: return undoable;
            default: return NONE;
        }
    }

    // ---- refusals ----

    private void requireArgument(boolean fine) {
        if (!fine) {
            refusedArguments++;
            throw new IllegalArgumentException();
        }
    }

    private void requireHand(int hand) {
        requireElement(hand >= 0 && hand < family.hands);
    }

    private void requirePuppet(int puppet) {
        requireElement(puppet >= 0 && puppet < family.puppets);
    }

    private void requireAct(int act) {
        requireElement(act >= 0 && act < family.acts);
    }

    private void requireElement(boolean there) {
        if (!there) {
            refusedElements++;
            throw new NoSuchElementException();
        }
    }

    // ---- helpers of the calls ----

    private static boolean has(int bits, int number) {
        return (bits >> number & 1) != 0;
    }

    private void startAnew() {
        law.useNone();
        book.lines = 0;
        imageCount = 0;
        now.startAsTold(family);
        forgetYears();
    }

    /** From here on undo() comes back no further than to what is now. */
    private void forgetYears() {
        base.copyOf(now);
        undoable = 0;
    }

    private int waysToCast(State state, int act, int alive) {
        caster.start(alive);
        return caster.addAct(family, state, act) ? caster.countWays(family) : 0;
    }

    private int actsPlayed(State state, int alive) {
        int acts = 0;
        for (int a = 0; a < family.acts; a++) {
            if (waysToCast(state, a, alive) > 0) {
                acts |= 1 << a;
            }
        }
        return acts;
    }

    /** How many of the acts that are played now could not be, were the hand dead. */
    private int costOf(int hand, int played) {
        int others = now.alive(family) & ~(1 << hand);
        return Integer.bitCount(played & ~actsPlayed(now, others));
    }

    /** How many of those alive have not quarrelled with all puppets of the set. */
    private int handsFor(int puppetSet, int alive) {
        int hands = 0;
        for (int h = 0; h < family.hands; h++) {
            if (has(alive, h) && (puppetSet & ~family.quarrels[h]) != 0) {
                hands++;
            }
        }
        return hands;
    }

    private int lieOf(int puppet, int hand) {
        return (family.fall[puppet] + 3 * family.limp[hand] + now.strings[puppet]) % 16;
    }

    /** Lives the asked years from how they stand asked, and counts the lines up to the first wrong one. */
    private int rightLines() {
        int right = 0;
        int latest = book.latestYear();
        for (int y = 1; y <= latest && y <= YEARS_AT_ONCE; y++) {
            asked.year++;
            asked.live(family, law, 0);
            right |= book.rightBehind(asked);
        }
        int leading = 0;
        while (leading < book.lines && has(right, leading)) {
            leading++;
        }
        return leading;
    }

    private int planNights() {
        int alive = now.alive(family);
        for (int most = 0; most < MOST_HANDS; most++) {
            clearNights();
            if (planFrom(family, nightOf, alive, 0, 0, most)) {
                return most;
            }
        }
        clearNights();
        planFrom(family, nightOf, alive, 0, 0, MOST_HANDS);
        return MOST_HANDS;
    }

    private void clearNights() {
        for (int h = 0; h < MOST_HANDS; h++) {
            nightOf[h] = NONE;
        }
    }

    /** Puts the hands from one on on nights below most, each on the first that leaves room for the rest. */
    private static boolean planFrom(Family family, int[] nightOf, int alive, int hand, int used, int most) {
        if (hand < 0 || hand >= family.hands || hand >= nightOf.length) {
            return true;
        }
        if (!has(alive, hand)) {
            return planFrom(family, nightOf, alive, hand + 1, used, most);
        }
        // nights are alike until somebody is on them: of the unused ones only the first is tried
        for (int night = 0; night <= used && night < most; night++) {
            if (isQuiet(family, nightOf, hand, night)) {
                nightOf[hand] = night;
                int then = Math.max(used, night + 1);
                if (planFrom(family, nightOf, alive, hand + 1, then, most)) {
                    return true;
                }
            }
        }
        nightOf[hand] = NONE;
        return false;
    }

    private static boolean isQuiet(Family family, int[] nightOf, int hand, int night) {
        for (int g = 0; g < hand && g < nightOf.length; g++) {
            if (nightOf[g] == night && has(family.silent[hand], g)) {
                return false;
            }
        }
        return true;
    }

    private int claimOf(int hand) {
        if (!now.isAlive(family, hand)) {
            return 0;
        }
        int claim = 0;
        for (int p = 0; p < family.puppets; p++) {
            if (has(now.works[hand], p)) {
                claim += now.strings[p];
            }
        }
        return claim;
    }

    /** What is claimed in all, were nobody to claim more than the bound. */
    private int claimsUpTo(int bound) {
        int claims = 0;
        for (int h = 0; h < family.hands; h++) {
            claims += Math.min(bound, claimOf(h));
        }
        return claims;
    }

    private int netOf(int hand) {
        int net = 0;
        for (int h = 0; h < family.hands; h++) {
            net += family.debts[h][hand] - family.debts[hand][h];
        }
        return net;
    }

    private int eldest() {
        int eldest = NONE;
        for (int h = 0; h < family.hands; h++) {
            if (now.isAlive(family, h) && (eldest == NONE || family.born[h] < family.born[eldest])) {
                eldest = h;
            }
        }
        return eldest;
    }

    private int richest() {
        int richest = NONE;
        for (int h = 0; h < family.hands; h++) {
            if (richest == NONE || netOf(h) > netOf(richest)) {
                richest = h;
            }
        }
        return richest;
    }

    private void liveFates(int seed, int q, int n) {
        asked.copyOf(now);
        seedOfFates.value = seed;
        for (int i = 0; i < n; i++) {
            asked.year++;
            asked.live(family, law, seedOfFates.doom(family, asked, q));
        }
    }

    // ---- the parts ----

    /** The bytes that were fed, and the text that is read from them; keeps the fault of the latest text. */
    private static final class Tape {
        private final int[] bytes = new int[TAPE_BYTES];
        private int size;
        private int end;
        private int at;
        private int fault;
        private int place = NONE;
        /** Where the latest number or word begins. */
        private int from;
        private int value;
        private int valueBefore;

        void put(int number) {
            for (int shift = 24; shift >= 0 && size < TAPE_BYTES; shift -= 8) {
                bytes[size] = number >> shift & 255;
                size++;
            }
        }

        /** The first n bytes are the text to read; the tape is empty then. */
        void open(int n) {
            end = Math.min(n, TAPE_BYTES);
            size = 0;
            at = 0;
            from = 0;
            fault = 0;
            place = NONE;
        }

        boolean fail(int kind, int where) {
            fault = kind;
            place = where;
            return false;
        }

        /** The byte of the text at a place, NONE behind its end. */
        private int byteAt(int i) {
            return i >= 0 && i < end && i < TAPE_BYTES ? bytes[i] : NONE;
        }

        /** The next byte that is no blank, NONE at the end. */
        int peek() {
            while (at < end && at < TAPE_BYTES && bytes[at] == ' ') {
                at++;
            }
            return at < end && at < TAPE_BYTES ? bytes[at] : NONE;
        }

        boolean isEnded() {
            return peek() == NONE;
        }

        boolean isAtNumber() {
            return isDigit(peek());
        }

        boolean readSign(int sign) {
            if (peek() != sign) {
                return fail(CANNOT_STAND, at);
            }
            at++;
            return true;
        }

        boolean readNumber(int least, int most) {
            if (!isDigit(peek())) {
                return fail(CANNOT_STAND, at);
            }
            from = at;
            valueBefore = value;
            value = 0;
            for (int i = from; i < end && isDigit(byteAt(i)); i++) {
                // beyond this it is none such, however many digits follow
                if (value < 100000) {
                    value = value * 10 + byteAt(i) - '0';
                }
                at = i + 1;
            }
            return value >= least && value <= most || fail(NONE_SUCH, from);
        }

        boolean readWord() {
            if (!isLetter(peek())) {
                return fail(CANNOT_STAND, at);
            }
            from = at;
            for (int i = from; i < end && isLetter(byteAt(i)); i++) {
                at = i + 1;
            }
            return true;
        }

        boolean isWord(String word) {
            if (word == null || at - from != word.length()) {
                return false;
            }
            for (int i = 0; i < word.length(); i++) {
                if (byteAt(from + i) != word.charAt(i)) {
                    return false;
                }
            }
            return true;
        }

        private static boolean isDigit(int sign) {
            return sign >= '0' && sign <= '9';
        }

        private static boolean isLetter(int sign) {
            return sign >= 'a' && sign <= 'z';
        }
    }

    /** What the text of the family tells. */
    private static final class Family {
        private static final int HAND = 0;
        private static final int PUPPET = 1;
        private static final int WORKS = 2;
        private static final int QUARREL = 3;
        private static final int SILENT = 4;
        private static final int ACT = 5;
        private static final int OWES = 6;
        private static final int WEAR = 7;

        private int hands;
        private final int[] limp = new int[MOST_HANDS];
        private final int[] born = new int[MOST_HANDS];
        private final int[] death = new int[MOST_HANDS];
        private final int[] worked = new int[MOST_HANDS];
        private final int[] quarrels = new int[MOST_HANDS];
        private final int[] silent = new int[MOST_HANDS];
        private final int[][] debts = new int[MOST_HANDS][MOST_HANDS];
        private int puppets;
        private final int[] fall = new int[MOST_PUPPETS];
        private final int[] needs = new int[MOST_PUPPETS];
        private final int[] strings = new int[MOST_PUPPETS];
        private int acts;
        private final int[] laughs = new int[MOST_ACTS];
        private final int[] sizes = new int[MOST_ACTS];
        private final int[][] orders = new int[MOST_ACTS][MOST_IN_ACT];
        private int wear = 1;

        private void clear() {
            hands = 0;
            puppets = 0;
            acts = 0;
            wear = 1;
            for (int h = 0; h < MOST_HANDS; h++) {
                worked[h] = 0;
                quarrels[h] = 0;
                silent[h] = 0;
                for (int g = 0; g < MOST_HANDS; g++) {
                    debts[h][g] = 0;
                }
            }
            for (int a = 0; a < MOST_ACTS; a++) {
                sizes[a] = 0;
            }
        }

        boolean readFrom(Tape tape) {
            clear();
            for (int clauses = 0; clauses <= MOST_CLAUSES && !tape.isEnded(); clauses++) {
                if (!readClause(tape, clauses)) {
                    return false;
                }
            }
            return true;
        }

        private boolean readClause(Tape tape, int clauses) {
            if (!tape.readWord()) {
                return false;
            }
            int kind = kindOf(tape);
            if (kind == NONE) {
                return tape.fail(CANNOT_STAND, tape.from);
            }
            if (clauses >= MOST_CLAUSES || isFull(kind)) {
                return tape.fail(TOO_MANY, tape.from);
            }
            boolean read;
            switch (kind) {
                case HAND: read = readHand(tape); break;
                case PUPPET: read = readPuppet(tape); break;
                case WORKS: read = readWorks(tape); break;
                case QUARREL: read = readQuarrel(tape); break;
                case SILENT: read = readSilent(tape); break;
                case ACT: read = readAct(tape); break;
                case OWES: read = readOwes(tape); break;
                default: read = readWear(tape); break;
            }
            return read && tape.readSign(';');
        }

        private static int kindOf(Tape tape) {
            if (tape.isWord("hand")) {
                return HAND;
            }
            if (tape.isWord("puppet")) {
                return PUPPET;
            }
            if (tape.isWord("works")) {
                return WORKS;
            }
            if (tape.isWord("quarrel")) {
                return QUARREL;
            }
            if (tape.isWord("silent")) {
                return SILENT;
            }
            if (tape.isWord("act")) {
                return ACT;
            }
            if (tape.isWord("owes")) {
                return OWES;
            }
            return tape.isWord("wear") ? WEAR : NONE;
        }

        private boolean isFull(int kind) {
            return kind == HAND && hands >= MOST_HANDS || kind == PUPPET && puppets >= MOST_PUPPETS
                || kind == ACT && acts >= MOST_ACTS;
        }

        private boolean readHand(Tape tape) {
            int h = hands;
            if (h < 0 || h >= MOST_HANDS || !tape.readNumber(0, 9)) {
                return false;
            }
            limp[h] = tape.value;
            if (!tape.readNumber(0, 40)) {
                return false;
            }
            born[h] = tape.value;
            if (!tape.readNumber(0, 60)) {
                return false;
            }
            death[h] = tape.value;
            if (death[h] != 0 && death[h] <= born[h]) {
                return tape.fail(NONE_SUCH, tape.from);
            }
            hands++;
            return true;
        }

        private boolean readPuppet(Tape tape) {
            int p = puppets;
            if (p < 0 || p >= MOST_PUPPETS || !tape.readNumber(0, 15)) {
                return false;
            }
            fall[p] = tape.value;
            if (!tape.readNumber(1, 2)) {
                return false;
            }
            needs[p] = tape.value;
            if (!tape.readNumber(0, MOST_STRINGS)) {
                return false;
            }
            strings[p] = tape.value;
            puppets++;
            return true;
        }

        /** Reads a hand, then a number below the bound: the tape's valueBefore and value. */
        private boolean readHandAnd(Tape tape, int bound) {
            return tape.readNumber(0, hands - 1) && tape.readNumber(0, bound - 1);
        }

        private boolean readWorks(Tape tape) {
            if (!readHandAnd(tape, puppets)) {
                return false;
            }
            int h = tape.valueBefore;
            int p = tape.value;
            if (born[h] != 0 || has(worked[h] | quarrels[h], p) || workersOf(p) >= needs[p]) {
                return tape.fail(NONE_SUCH, tape.from);
            }
            worked[h] |= 1 << p;
            return true;
        }

        private int workersOf(int puppet) {
            int workers = 0;
            for (int h = 0; h < hands; h++) {
                workers += has(worked[h], puppet) ? 1 : 0;
            }
            return workers;
        }

        private boolean readQuarrel(Tape tape) {
            if (!readHandAnd(tape, puppets)) {
                return false;
            }
            int h = tape.valueBefore;
            int p = tape.value;
            if (has(worked[h], p)) {
                return tape.fail(NONE_SUCH, tape.from);
            }
            quarrels[h] |= 1 << p;
            return true;
        }

        private boolean readSilent(Tape tape) {
            if (!readHandAnd(tape, hands)) {
                return false;
            }
            int h = tape.valueBefore;
            int g = tape.value;
            if (h == g) {
                return tape.fail(NONE_SUCH, tape.from);
            }
            silent[h] |= 1 << g;
            silent[g] |= 1 << h;
            return true;
        }

        private boolean readAct(Tape tape) {
            int a = acts;
            if (a < 0 || a >= MOST_ACTS || !tape.readNumber(0, 9)) {
                return false;
            }
            laughs[a] = tape.value;
            for (int i = 0; i <= MOST_IN_ACT && tape.isAtNumber(); i++) {
                if (!readPuppetOfAct(tape, a, i)) {
                    return false;
                }
            }
            if (sizes[a] == 0) {
                return tape.fail(CANNOT_STAND, tape.at);
            }
            if (!tape.readWord()) {
                return false;
            }
            if (!tape.isWord("end")) {
                return tape.fail(CANNOT_STAND, tape.from);
            }
            acts++;
            return true;
        }

        private boolean readPuppetOfAct(Tape tape, int act, int i) {
            if (!tape.readNumber(0, puppets - 1)) {
                return false;
            }
            if (has(puppetsOf(act), tape.value)) {
                return tape.fail(NONE_SUCH, tape.from);
            }
            if (i < 0 || i >= MOST_IN_ACT) {
                return tape.fail(TOO_MANY, tape.from);
            }
            orders[act][i] = tape.value;
            sizes[act] = i + 1;
            return true;
        }

        private boolean readOwes(Tape tape) {
            if (!readHandAnd(tape, hands)) {
                return false;
            }
            int h = tape.valueBefore;
            int g = tape.value;
            if (h == g) {
                return tape.fail(NONE_SUCH, tape.from);
            }
            if (!tape.readNumber(1, 99)) {
                return false;
            }
            debts[h][g] = Math.min(MOST_DEBT, debts[h][g] + tape.value);
            return true;
        }

        private boolean readWear(Tape tape) {
            if (!tape.readNumber(0, 9)) {
                return false;
            }
            wear = tape.value;
            return true;
        }

        int puppetsOf(int act) {
            int bits = 0;
            for (int i = 0; i < sizes[act] && i < MOST_IN_ACT; i++) {
                bits |= 1 << orders[act][i];
            }
            return bits;
        }

        int needOf(int puppetSet) {
            int need = 0;
            for (int p = 0; p < puppets; p++) {
                need += has(puppetSet, p) ? needs[p] : 0;
            }
            return need;
        }

        /** The hands that have not quarrelled with a puppet. */
        int friendsOf(int puppet) {
            int friends = 0;
            for (int h = 0; h < hands; h++) {
                if (!has(quarrels[h], puppet)) {
                    friends |= 1 << h;
                }
            }
            return friends;
        }

        boolean allSpeak(int handSet) {
            for (int h = 0; h < hands; h++) {
                if (has(handSet, h) && (handSet & silent[h]) != 0) {
                    return false;
                }
            }
            return true;
        }
    }

    /** Whom a puppet prefers: the law's expression, in the order in which it is reckoned. */
    private static final class Law {
        private static final int LIMP = 1000;
        private static final int FALL = 1001;
        private static final int AGE = 1002;
        private static final int WORKS = 1003;
        private static final int STRINGS = 1004;
        private static final int YEAR = 1005;
        private static final int NUMBER = 1006;
        private static final int PUPPET = 1007;
        private static final int KIN = 1008;
        private static final int LEAST = 2000;
        private static final int MOST = 2001;
        private static final int PLUS = 2002;
        private static final int MINUS = 2003;
        private static final int TIMES = 2004;
        private static final int CUT = 2005;
        private static final int LEFT = 2006;
        /** limp * 2 - works * 3 + kin: what holds without a law. */
        private static final int[] WITHOUT = {LIMP, 2, TIMES, WORKS, 3, TIMES, MINUS, KIN, PLUS};

        /** Numbers stand for themselves, below LEAST are values, from it on what joins the latest two. */
        private final int[] code = new int[TEXT_BYTES];
        private int length;
        private final int[] stack = new int[TEXT_BYTES];

        void useNone() {
            length = 0;
            for (int i = 0; i < WITHOUT.length; i++) {
                add(WITHOUT[i]);
            }
        }

        private boolean add(int word) {
            if (length >= 0 && length < TEXT_BYTES) {
                code[length] = word;
                length++;
            }
            return true;
        }

        boolean readFrom(Tape tape) {
            length = 0;
            return readSum(tape, 0) && (tape.isEnded() || tape.fail(CANNOT_STAND, tape.at));
        }

        private boolean readSum(Tape tape, int open) {
            if (!readProduct(tape, open)) {
                return false;
            }
            for (int i = 0; i < TEXT_BYTES; i++) {
                int sign = tape.peek();
                if (sign != '+' && sign != '-') {
                    return true;
                }
                if (!tape.readSign(sign) || !readProduct(tape, open)) {
                    return false;
                }
                add(sign == '+' ? PLUS : MINUS);
            }
            return true;
        }

        private boolean readProduct(Tape tape, int open) {
            if (!readUnit(tape, open)) {
                return false;
            }
            for (int i = 0; i < TEXT_BYTES; i++) {
                int sign = tape.peek();
                if (sign != '*' && sign != '/' && sign != '%') {
                    return true;
                }
                if (!tape.readSign(sign) || !readUnit(tape, open)) {
                    return false;
                }
                add(sign == '*' ? TIMES : sign == '/' ? CUT : LEFT);
            }
            return true;
        }

        private boolean readUnit(Tape tape, int open) {
            if (tape.isAtNumber()) {
                return tape.readNumber(0, 999) && add(tape.value);
            }
            if (tape.peek() == '(') {
                if (open >= MOST_OPEN) {
                    return tape.fail(TOO_MANY, tape.at);
                }
                return tape.readSign('(') && readSum(tape, open + 1) && tape.readSign(')');
            }
            if (!tape.readWord()) {
                return false;
            }
            int word = wordOf(tape);
            if (word == NONE) {
                return tape.fail(CANNOT_STAND, tape.from);
            }
            if (word < LEAST) {
                return add(word);
            }
            if (open >= MOST_OPEN) {
                return tape.fail(TOO_MANY, tape.from);
            }
            return tape.readSign('[') && readSum(tape, open + 1) && tape.readSign(',')
                && readSum(tape, open + 1) && tape.readSign(']') && add(word);
        }

        private static int wordOf(Tape tape) {
            if (tape.isWord("limp")) {
                return LIMP;
            }
            if (tape.isWord("fall")) {
                return FALL;
            }
            if (tape.isWord("age")) {
                return AGE;
            }
            if (tape.isWord("works")) {
                return WORKS;
            }
            if (tape.isWord("strings")) {
                return STRINGS;
            }
            if (tape.isWord("year")) {
                return YEAR;
            }
            if (tape.isWord("number")) {
                return NUMBER;
            }
            if (tape.isWord("puppet")) {
                return PUPPET;
            }
            if (tape.isWord("kin")) {
                return KIN;
            }
            if (tape.isWord("least")) {
                return LEAST;
            }
            return tape.isWord("most") ? MOST : NONE;
        }

        /** The score of a hand for a puppet. */
        int weigh(Family family, State state, int puppet, int hand) {
            int top = 0;
            for (int i = 0; i < length && i < TEXT_BYTES; i++) {
                int word = code[i];
                if (word < LEAST) {
                    if (top >= TEXT_BYTES) {
                        return 0;
                    }
                    stack[top] = word < LIMP ? word : valueOf(word, family, state, puppet, hand);
                    top++;
                } else {
                    if (top < 2) {
                        return 0;
                    }
                    stack[top - 2] = join(word, stack[top - 2], stack[top - 1]);
                    top--;
                }
            }
            return stack[0];
        }

        private static int valueOf(int word, Family family, State state, int puppet, int hand) {
            switch (word) {
                case LIMP: return state.limp[hand];
                case FALL: return family.fall[puppet];
                case AGE: return state.year - family.born[hand];
                case WORKS: return Integer.bitCount(state.works[hand]);
                case STRINGS: return state.strings[puppet];
                case YEAR: return state.year;
                case NUMBER: return hand;
                case PUPPET: return puppet;
                default: return state.isKin(family, puppet, hand) ? 1 : 0;
            }
        }

        private static int join(int word, int a, int b) {
            switch (word) {
                case LEAST: return Math.min(a, b);
                case MOST: return Math.max(a, b);
                case PLUS: return a + b;
                case MINUS: return a - b;
                case TIMES: return a * b;
                case CUT: return b == 0 ? 0 : a / b;
                default: return b == 0 ? 0 : a % b;
            }
        }

        /** Whom a puppet would choose, NONE: nobody. */
        int choiceOf(Family family, State state, int puppet) {
            int choice = NONE;
            int greatest = 0;
            for (int h = 0; h < family.hands; h++) {
                if (state.canTake(family, h, puppet)) {
                    int weight = weigh(family, state, puppet, h);
                    if (choice == NONE || weight > greatest) {
                        choice = h;
                        greatest = weight;
                    }
                }
            }
            return choice;
        }
    }

    /** Lines of who worked what behind which year. */
    private static final class Book {
        private int lines;
        private final int[] years = new int[MOST_LINES];
        private final int[] puppets = new int[MOST_LINES];
        private final int[] hands = new int[MOST_LINES];

        boolean readFrom(Tape tape, Family family) {
            lines = 0;
            for (int i = 0; i <= MOST_LINES && !tape.isEnded(); i++) {
                if (!readLine(tape, family, i)) {
                    return false;
                }
            }
            return true;
        }

        private boolean readLine(Tape tape, Family family, int i) {
            if (!tape.readNumber(1, 60)) {
                return false;
            }
            if (i < 0 || i >= MOST_LINES) {
                return tape.fail(TOO_MANY, tape.from);
            }
            years[i] = tape.value;
            if (!tape.readNumber(0, family.puppets - 1)) {
                return false;
            }
            puppets[i] = tape.value;
            if (!tape.readNumber(0, family.hands - 1)) {
                return false;
            }
            hands[i] = tape.value;
            lines = i + 1;
            return tape.readSign(';');
        }

        int latestYear() {
            int latest = 0;
            for (int i = 0; i < lines; i++) {
                latest = Math.max(latest, years[i]);
            }
            return latest;
        }

        /** The lines, as bits, that tell of the year which has just gone by, and are right. */
        int rightBehind(State state) {
            int right = 0;
            for (int i = 0; i < lines; i++) {
                if (years[i] == state.year && has(state.works[hands[i]], puppets[i])) {
                    right |= 1 << i;
                }
            }
            return right;
        }
    }

    /** How all stands in a year. */
    private static final class State {
        private int year;
        private int dead;
        /** A hand's limp stands here too, so that another one can be tried. */
        private final int[] limp = new int[MOST_HANDS];
        private final int[] works = new int[MOST_HANDS];
        private final int[] chosenFirst = new int[MOST_HANDS];
        private final int[][] began = new int[MOST_HANDS][MOST_PUPPETS];
        private final int[] strings = new int[MOST_PUPPETS];
        private final int[] workedLast = new int[MOST_PUPPETS];

        void startAsTold(Family family) {
            year = 0;
            dead = 0;
            for (int h = 0; h < MOST_HANDS; h++) {
                limp[h] = family.limp[h];
                works[h] = family.worked[h];
                chosenFirst[h] = NONE;
                for (int p = 0; p < MOST_PUPPETS; p++) {
                    began[h][p] = has(works[h], p) ? 0 : NONE;
                }
            }
            for (int p = 0; p < MOST_PUPPETS; p++) {
                strings[p] = family.strings[p];
                workedLast[p] = NONE;
            }
        }

        void copyOf(State other) {
            year = other.year;
            dead = other.dead;
            for (int h = 0; h < MOST_HANDS; h++) {
                limp[h] = other.limp[h];
                works[h] = other.works[h];
                chosenFirst[h] = other.chosenFirst[h];
                for (int p = 0; p < MOST_PUPPETS; p++) {
                    began[h][p] = other.began[h][p];
                }
            }
            for (int p = 0; p < MOST_PUPPETS; p++) {
                strings[p] = other.strings[p];
                workedLast[p] = other.workedLast[p];
            }
        }

        boolean isAlive(Family family, int hand) {
            return family.born[hand] <= year && !has(dead, hand);
        }

        int alive(Family family) {
            int alive = 0;
            for (int h = 0; h < family.hands; h++) {
                if (isAlive(family, h)) {
                    alive |= 1 << h;
                }
            }
            return alive;
        }

        /** 0 not born, 1 alive, 2 dead. */
        int lifeOf(Family family, int hand) {
            if (has(dead, hand)) {
                return 2;
            }
            return family.born[hand] <= year ? 1 : 0;
        }

        int ageOf(Family family, int hand) {
            return Math.max(0, year - family.born[hand]);
        }

        int handsOf(int puppet) {
            int hands = 0;
            for (int h = 0; h < MOST_HANDS; h++) {
                if (has(works[h], puppet)) {
                    hands |= 1 << h;
                }
            }
            return hands;
        }

        int lackOf(Family family, int puppet) {
            return Math.max(0, family.needs[puppet] - Integer.bitCount(handsOf(puppet)));
        }

        int lackingHands(Family family) {
            int lacking = 0;
            for (int p = 0; p < family.puppets; p++) {
                if (lackOf(family, p) > 0) {
                    lacking |= 1 << p;
                }
            }
            return lacking;
        }

        int allStrings(Family family) {
            int all = 0;
            for (int p = 0; p < family.puppets; p++) {
                all += strings[p];
            }
            return all;
        }

        /** Whether a hand could begin to work a puppet. */
        boolean canTake(Family family, int hand, int puppet) {
            return isAlive(family, hand) && !has(works[hand] | family.quarrels[hand], puppet)
                && Integer.bitCount(works[hand]) < MOST_WORKED;
        }

        /** Whether he works another puppet with a hand that works, or worked last, this one. */
        boolean isKin(Family family, int puppet, int hand) {
            int others = works[hand] & ~(1 << puppet);
            for (int g = 0; g < family.hands; g++) {
                boolean near = (works[g] >> puppet & 1) != 0 || workedLast[puppet] == g;
                if (g != hand && near && (works[g] & others) != 0) {
                    return true;
                }
            }
            return false;
        }

        void begin(int hand, int puppet) {
            works[hand] |= 1 << puppet;
            began[hand][puppet] = year;
        }

        void cease(int hand, int puppet) {
            works[hand] &= ~(1 << puppet);
            workedLast[puppet] = hand;
        }

        void bury(int hand) {
            for (int p = 0; p < MOST_PUPPETS; p++) {
                if (has(works[hand], p)) {
                    cease(hand, p);
                }
            }
            dead |= 1 << hand;
        }

        void liveYear(Family family, Law law) {
            year++;
            live(family, law, 0);
        }

        /** What the year that has begun brings; the doomed die in it, too. */
        void live(Family family, Law law, int doomed) {
            for (int h = 0; h < family.hands; h++) {
                if (isAlive(family, h) && (family.death[h] == year || has(doomed, h))) {
                    bury(h);
                }
            }
            for (int p = 0; p < family.puppets; p++) {
                int lack = lackOf(family, p);
                for (int i = 0; i < lack; i++) {
                    choose(p, law.choiceOf(family, this, p));
                }
            }
            for (int p = 0; p < family.puppets; p++) {
                if (lackOf(family, p) == 0) {
                    strings[p] = Math.max(0, strings[p] - family.wear);
                }
            }
        }

        private void choose(int puppet, int hand) {
            if (hand < 0 || hand >= MOST_HANDS) {
                return;
            }
            begin(hand, puppet);
            if (chosenFirst[hand] == NONE) {
                chosenFirst[hand] = puppet;
            }
        }
    }

    /**
     * The ways to give hands to puppets. Puppets get theirs in order and each needs one at least, so how many
     * hands are taken tells which puppet is next: a row over the sets of taken hands is enough.
     */
    private static final class Caster {
        /** The sets of one hand and of two, the least first. */
        private static final int[] SINGLES = {1, 2, 4, 8, 16, 32, 64, 128, 256};
        private static final int[] PAIRS = {
            3, 5, 6, 9, 10, 12, 17, 18, 20, 24, 33, 34, 36, 40, 48, 65, 66, 68, 72, 80, 96,
            129, 130, 132, 136, 144, 160, 192, 257, 258, 260, 264, 272, 288, 320, 384};

        private int alive;
        private int size;
        private int need;
        private final int[] order = new int[MOST_PUPPETS];
        private final int[] friends = new int[MOST_PUPPETS];
        private final int[] needs = new int[MOST_PUPPETS];
        /** Which puppet is next when so many hands are taken; the size when all have theirs; NONE: never so. */
        private final int[] next = new int[MOST_HANDS + 1];
        /** In how many ways the rest can be given when these hands are taken. */
        private final int[] ways = new int[HAND_SETS];
        private final boolean[] reached = new boolean[HAND_SETS];
        private int inEach;
        private int worked;

        void start(int handsAlive) {
            alive = handsAlive & HAND_SETS - 1;
            size = 0;
            need = 0;
            for (int taken = 0; taken <= MOST_HANDS; taken++) {
                next[taken] = NONE;
            }
            next[0] = 0;
        }

        /** Whether the puppets of the act have strings for it, and there are as many hands in all as they need. */
        boolean addAct(Family family, State state, int act) {
            for (int i = 0; i < family.sizes[act] && i < MOST_IN_ACT; i++) {
                int p = family.orders[act][i];
                if (state.strings[p] < family.laughs[act] || !addPuppet(family, p)) {
                    return false;
                }
            }
            return true;
        }

        private boolean addPuppet(Family family, int puppet) {
            need += family.needs[puppet];
            if (size >= MOST_PUPPETS || need > MOST_HANDS || need > Integer.bitCount(alive)) {
                return false;
            }
            order[size] = puppet;
            needs[size] = family.needs[puppet];
            friends[size] = family.friendsOf(puppet) & alive;
            size++;
            next[need] = size;
            return true;
        }

        int countWays(Family family) {
            for (int taken = HAND_SETS - 1; taken >= 0; taken--) {
                int i = next[Integer.bitCount(taken)];
                boolean fits = i != NONE && (taken & ~alive) == 0 && family.allSpeak(taken);
                ways[taken] = fits ? waysFrom(i, taken) : 0;
            }
            return ways[0];
        }

        private int waysFrom(int i, int taken) {
            if (i >= size) {
                return 1;
            }
            int free = friends[i] & ~taken;
            int[] sets = needs[i] == 1 ? SINGLES : PAIRS;
            int sum = 0;
            for (int k = 0; k < sets.length; k++) {
                if ((sets[k] & ~free) == 0) {
                    sum += ways[taken | sets[k]];
                }
            }
            return sum;
        }

        /** The hands of a puppet by the first of the ways that are counted; 0: it is not among the puppets. */
        int firstSetOf(int puppet) {
            int taken = 0;
            for (int i = 0; i < size; i++) {
                int set = firstSet(i, taken);
                if (order[i] == puppet) {
                    return set;
                }
                taken |= set;
            }
            return 0;
        }

        private int firstSet(int i, int taken) {
            int free = friends[i] & ~taken;
            int[] sets = needs[i] == 1 ? SINGLES : PAIRS;
            for (int k = 0; k < sets.length; k++) {
                if ((sets[k] & ~free) == 0 && ways[taken | sets[k]] > 0) {
                    return sets[k];
                }
            }
            return 0;
        }

        /** Goes all ways that are counted: which hands are in each, and which puppets the hand works in some. */
        void follow(int hand) {
            inEach = alive;
            worked = 0;
            for (int taken = 0; taken < HAND_SETS; taken++) {
                reached[taken] = false;
            }
            reached[0] = true;
            for (int taken = 0; taken < HAND_SETS; taken++) {
                int i = next[Integer.bitCount(taken)];
                if (reached[taken] && i >= size) {
                    inEach &= taken;
                } else if (reached[taken] && i != NONE) {
                    followFrom(i, taken, hand);
                }
            }
        }

        private void followFrom(int i, int taken, int hand) {
            int free = friends[i] & ~taken;
            int[] sets = needs[i] == 1 ? SINGLES : PAIRS;
            for (int k = 0; k < sets.length; k++) {
                int then = taken | sets[k];
                if ((sets[k] & ~free) == 0 && ways[then] > 0) {
                    reached[then] = true;
                    if (has(sets[k], hand)) {
                        worked |= 1 << order[i];
                    }
                }
            }
        }
    }

    /** Draws who dies. */
    private static final class Seed {
        private int value;

        private int draw() {
            value = value * 1103515245 + 12345;
            return value >> 16 & 32767;
        }

        /** Draws for each who is alive as the year begins: who is doomed. */
        int doom(Family family, State state, int q) {
            int doomed = 0;
            for (int h = 0; h < family.hands; h++) {
                if (state.isAlive(family, h) && draw() % 16 < q) {
                    doomed |= 1 << h;
                }
            }
            return doomed;
        }
    }
}
