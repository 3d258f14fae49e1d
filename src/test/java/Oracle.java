import java.util.ArrayList;
import java.util.HashSet;
import java.util.List;
import java.util.NoSuchElementException;
import java.util.Set;
import java.util.TreeSet;

/** The document read a second time, by trying out everything: slow, and as unlike the program as it can be. */
final class Oracle {
    static final class Fault extends RuntimeException {
        final int kind;
        final int place;
        Fault(int kind, int place) {
            this.kind = kind;
            this.place = place;
        }
    }

    /** One token: a number (value told), a word, a sign, or the end. */
    record Token(char type, String text, int place) {
        boolean is(String t) {
            return type != '9' && text.equals(t);
        }
        int value() {
            return new java.math.BigInteger(text).min(java.math.BigInteger.valueOf(1000000)).intValue();
        }
    }

    static final class Tokens {
        final List<Token> all = new ArrayList<>();
        int i;
        Tokens(String text) {
            int p = 0;
            while (p < text.length()) {
                char c = text.charAt(p);
                if (c == ' ') {
                    p++;
                    continue;
                }
                int from = p;
                if (c >= '0' && c <= '9') {
                    while (p < text.length() && text.charAt(p) >= '0' && text.charAt(p) <= '9') p++;
                    all.add(new Token('9', text.substring(from, p), from));
                } else if (c >= 'a' && c <= 'z') {
                    while (p < text.length() && text.charAt(p) >= 'a' && text.charAt(p) <= 'z') p++;
                    all.add(new Token('a', text.substring(from, p), from));
                } else {
                    p++;
                    all.add(new Token('s', text.substring(from, p), from));
                }
            }
            all.add(new Token('$', "", text.length()));
        }
        Token look() {
            return all.get(i);
        }
        boolean end() {
            return look().type == '$';
        }
        Token number() {
            if (look().type != '9') throw new Fault(1, look().place);
            return all.get(i++);
        }
        int number(int least, int most) {
            Token t = number();
            if (t.value() < least || t.value() > most) throw new Fault(2, t.place);
            return t.value();
        }
        int before() {
            return all.get(i - 1).place;
        }
        void sign(String s) {
            if (!look().is(s)) throw new Fault(1, look().place);
            i++;
        }
    }

    static final class Hand {
        int limp;
        int born;
        int death;
        Set<Integer> works = new TreeSet<>();
        Set<Integer> quarrels = new TreeSet<>();
    }

    static final class Puppet {
        int fall;
        int needs;
        int strings;
    }

    static final class Act {
        int laughs;
        List<Integer> puppets = new ArrayList<>();
    }

    static final class Told {
        List<Hand> hands = new ArrayList<>();
        List<Puppet> puppets = new ArrayList<>();
        List<Act> acts = new ArrayList<>();
        Set<String> silent = new HashSet<>();
        int[][] debts = new int[9][9];
        int wear = 1;

        boolean silent(int h, int g) {
            return silent.contains(h + " " + g);
        }

        Told() {
        }

        Told(String text) {
            Tokens t = new Tokens(text);
            int clauses = 0;
            while (!t.end()) {
                Token word = t.look();
                if (!Set.of("hand", "puppet", "works", "quarrel", "silent", "act", "owes", "wear").contains(word.text)) {
                    throw new Fault(1, word.place);
                }
                if (++clauses > 60) throw new Fault(3, word.place);
                t.i++;
                clause(word, t);
                t.sign(";");
            }
        }

        private void clause(Token word, Tokens t) {
            switch (word.text) {
                case "hand" -> {
                    if (hands.size() == 9) throw new Fault(3, word.place);
                    Hand h = new Hand();
                    h.limp = t.number(0, 9);
                    h.born = t.number(0, 40);
                    h.death = t.number(0, 60);
                    if (h.death > 0 && h.death <= h.born) throw new Fault(2, t.before());
                    hands.add(h);
                }
                case "puppet" -> {
                    if (puppets.size() == 8) throw new Fault(3, word.place);
                    Puppet p = new Puppet();
                    p.fall = t.number(0, 15);
                    p.needs = t.number(1, 2);
                    p.strings = t.number(0, 30);
                    puppets.add(p);
                }
                case "works" -> {
                    Hand h = hands.get(t.number(0, hands.size() - 1));
                    int p = t.number(0, puppets.size() - 1);
                    long workers = hands.stream().filter(g -> g.works.contains(p)).count();
                    if (h.born > 0 || h.works.contains(p) || h.quarrels.contains(p)
                        || workers == puppets.get(p).needs) throw new Fault(2, t.before());
                    h.works.add(p);
                }
                case "quarrel" -> {
                    Hand h = hands.get(t.number(0, hands.size() - 1));
                    int p = t.number(0, puppets.size() - 1);
                    if (h.works.contains(p)) throw new Fault(2, t.before());
                    h.quarrels.add(p);
                }
                case "silent" -> {
                    int h = t.number(0, hands.size() - 1);
                    int g = t.number(0, hands.size() - 1);
                    if (h == g) throw new Fault(2, t.before());
                    silent.add(h + " " + g);
                    silent.add(g + " " + h);
                }
                case "act" -> {
                    if (acts.size() == 6) throw new Fault(3, word.place);
                    Act a = new Act();
                    a.laughs = t.number(0, 9);
                    do {
                        int p = t.number(0, puppets.size() - 1);
                        if (a.puppets.contains(p)) throw new Fault(2, t.before());
                        if (a.puppets.size() == 6) throw new Fault(3, t.before());
                        a.puppets.add(p);
                    } while (t.look().type == '9');
                    t.sign("end");
                    acts.add(a);
                }
                case "owes" -> {
                    int h = t.number(0, hands.size() - 1);
                    int g = t.number(0, hands.size() - 1);
                    if (h == g) throw new Fault(2, t.before());
                    debts[h][g] = Math.min(999, debts[h][g] + t.number(1, 99));
                }
                default -> wear = t.number(0, 9);
            }
        }
    }

    /** A law as a tree. */
    interface Tree {
        int value(World w, int puppet, int hand);
    }

    static Tree lawOf(String text) {
        Tokens t = new Tokens(text);
        Tree tree = sum(t, 0);
        if (!t.end()) throw new Fault(1, t.look().place);
        return tree;
    }

    private static Tree sum(Tokens t, int open) {
        Tree left = product(t, open);
        while (t.look().is("+") || t.look().is("-")) {
            boolean plus = t.all.get(t.i++).is("+");
            Tree a = left;
            Tree b = product(t, open);
            left = (w, p, h) -> plus ? a.value(w, p, h) + b.value(w, p, h) : a.value(w, p, h) - b.value(w, p, h);
        }
        return left;
    }

    private static Tree product(Tokens t, int open) {
        Tree left = unit(t, open);
        while (t.look().is("*") || t.look().is("/") || t.look().is("%")) {
            String sign = t.all.get(t.i++).text;
            Tree a = left;
            Tree b = unit(t, open);
            left = (w, p, h) -> {
                long x = a.value(w, p, h);
                long y = b.value(w, p, h);
                if (sign.equals("*")) return (int) (x * y);
                if (y == 0) return 0;
                return (int) (sign.equals("/") ? x / y : x - x / y * y);
            };
        }
        return left;
    }

    private static Tree unit(Tokens t, int open) {
        Token k = t.look();
        if (k.type == '9') {
            int n = t.number(0, 999);
            return (w, p, h) -> n;
        }
        if (k.is("(") || k.is("least") || k.is("most")) {
            if (open == 6) throw new Fault(3, k.place);
            t.i++;
            if (k.is("(")) {
                Tree in = sum(t, open + 1);
                t.sign(")");
                return in;
            }
            t.sign("[");
            Tree a = sum(t, open + 1);
            t.sign(",");
            Tree b = sum(t, open + 1);
            t.sign("]");
            boolean least = k.is("least");
            return (w, p, h) -> {
                int x = a.value(w, p, h);
                int y = b.value(w, p, h);
                return least == x < y ? x : y;
            };
        }
        if (k.type != 'a') throw new Fault(1, k.place);
        t.i++;
        switch (k.text) {
            case "limp": return (w, p, h) -> w.hands.get(h).limp;
            case "fall": return (w, p, h) -> w.told.puppets.get(p).fall;
            case "age": return (w, p, h) -> w.year - w.told.hands.get(h).born;
            case "works": return (w, p, h) -> w.hands.get(h).works.size();
            case "strings": return (w, p, h) -> w.strings[p];
            case "year": return (w, p, h) -> w.year;
            case "number": return (w, p, h) -> h;
            case "puppet": return (w, p, h) -> p;
            case "kin": return (w, p, h) -> w.kin(p, h);
            default: throw new Fault(1, k.place);
        }
    }

    record Line(int year, int puppet, int hand) { }

    static final class Soul {
        int limp;
        boolean dead;
        Set<Integer> works = new TreeSet<>();
        int[] since = new int[8];
        int chose = -1;
    }

    /** How all stands. */
    static final class World {
        Told told;
        Tree law;
        int year;
        List<Soul> hands = new ArrayList<>();
        int[] strings;
        int[] last;

        World(Told told, Tree law) {
            this.told = told;
            this.law = law;
            strings = new int[told.puppets.size()];
            last = new int[told.puppets.size()];
            for (int p = 0; p < strings.length; p++) {
                strings[p] = told.puppets.get(p).strings;
                last[p] = -1;
            }
            for (Hand h : told.hands) {
                Soul s = new Soul();
                s.limp = h.limp;
                s.works.addAll(h.works);
                for (int p = 0; p < 8; p++) s.since[p] = h.works.contains(p) ? 0 : -1;
                hands.add(s);
            }
        }

        World copy() {
            World w = new World(told, law);
            w.year = year;
            w.strings = strings.clone();
            w.last = last.clone();
            for (int h = 0; h < hands.size(); h++) {
                Soul from = hands.get(h);
                Soul to = w.hands.get(h);
                to.limp = from.limp;
                to.dead = from.dead;
                to.works = new TreeSet<>(from.works);
                to.since = from.since.clone();
                to.chose = from.chose;
            }
            return w;
        }

        boolean alive(int h) {
            return !hands.get(h).dead && told.hands.get(h).born <= year;
        }

        List<Integer> living() {
            List<Integer> all = new ArrayList<>();
            for (int h = 0; h < hands.size(); h++) if (alive(h)) all.add(h);
            return all;
        }

        List<Integer> workers(int p) {
            List<Integer> all = new ArrayList<>();
            for (int h = 0; h < hands.size(); h++) if (hands.get(h).works.contains(p)) all.add(h);
            return all;
        }

        int kin(int p, int h) {
            Set<Integer> near = new TreeSet<>(workers(p));
            near.add(last[p]);
            near.remove(h);
            for (int g : near) {
                if (g < 0) continue;
                for (int q : hands.get(g).works) if (q != p && hands.get(h).works.contains(q)) return 1;
            }
            return 0;
        }

        boolean may(int h, int p) {
            return alive(h) && !hands.get(h).works.contains(p) && !told.hands.get(h).quarrels.contains(p)
                && hands.get(h).works.size() < 3;
        }

        int chooses(int p) {
            List<Integer> some = new ArrayList<>(living());
            some.removeIf(h -> !may(h, p));
            some.sort((a, b) -> {
                int c = Integer.compare(law.value(this, p, b), law.value(this, p, a));
                return c != 0 ? c : a - b;
            });
            return some.isEmpty() ? -1 : some.get(0);
        }

        void bury(int h) {
            for (int p : hands.get(h).works) last[p] = h;
            hands.get(h).works.clear();
            hands.get(h).dead = true;
        }

        void pass(Set<Integer> doomed) {
            for (int h = 0; h < hands.size(); h++) {
                if (!hands.get(h).dead && (told.hands.get(h).death == year || doomed.contains(h))) bury(h);
            }
            for (int p = 0; p < strings.length; p++) {
                while (workers(p).size() < told.puppets.get(p).needs) {
                    int h = chooses(p);
                    if (h < 0) break;
                    Soul s = hands.get(h);
                    s.works.add(p);
                    s.since[p] = year;
                    if (s.chose < 0) s.chose = p;
                }
            }
            for (int p = 0; p < strings.length; p++) {
                if (workers(p).size() >= told.puppets.get(p).needs) strings[p] = Math.max(0, strings[p] - told.wear);
            }
        }

        void pass() {
            year++;
            pass(Set.of());
        }

        int orphans() {
            int bits = 0;
            for (int p = 0; p < strings.length; p++) {
                if (workers(p).size() < told.puppets.get(p).needs) bits |= 1 << p;
            }
            return bits;
        }

        int allStrings() {
            int all = 0;
            for (int s : strings) all += s;
            return all;
        }
    }

    /** All ways to cast, gone one by one. */
    static final class Casting {
        final World w;
        final List<Integer> puppets;
        final List<Integer> laughs;
        final List<Integer> living;
        final int[] sets;
        int count;
        int[] first;
        int inEach = -1;
        int[] someOf = new int[8];

        Casting(World w, List<Integer> puppets, List<Integer> laughs, List<Integer> living) {
            this.w = w;
            this.puppets = puppets;
            this.laughs = laughs;
            this.living = living;
            sets = new int[puppets.size()];
            go(0, 0);
        }

        private void go(int i, int used) {
            if (i == sets.length) {
                count++;
                if (first == null) first = sets.clone();
                inEach &= used;
                for (int j = 0; j < i; j++) someOf[puppets.get(j)] |= sets[j];
                return;
            }
            int p = puppets.get(i);
            if (w.strings[p] < laughs.get(i)) return;
            for (int set = 1; set < 512; set++) {
                if (Integer.bitCount(set) == w.told.puppets.get(p).needs && (set & used) == 0 && fits(set, used, p)) {
                    sets[i] = set;
                    go(i + 1, used | set);
                }
            }
        }

        private boolean fits(int set, int used, int p) {
            for (int h = 0; h < 9; h++) {
                if ((set >> h & 1) == 0) continue;
                if (!living.contains(h) || w.told.hands.get(h).quarrels.contains(p)) return false;
                for (int g = 0; g < 9; g++) if (((set | used) >> g & 1) == 1 && w.told.silent(h, g)) return false;
            }
            return true;
        }
    }

    byte[] tape = new byte[0];
    int place = -1;
    Told told = new Told();
    Tree without = lawOf("limp * 2 - works * 3 + kin");
    Tree law = without;
    List<Line> book = new ArrayList<>();
    World now = new World(told, law);
    List<World> past = new ArrayList<>();
    List<World> images = new ArrayList<>();
    int[] refused = new int[2];

    private void arg(boolean ok) {
        if (!ok) {
            refused[1]++;
            throw new IllegalArgumentException();
        }
    }

    private void element(boolean ok) {
        if (!ok) {
            refused[0]++;
            throw new NoSuchElementException();
        }
    }

    private void h(int h) {
        element(h >= 0 && h < told.hands.size());
    }

    private void p(int p) {
        element(p >= 0 && p < told.puppets.size());
    }

    private void a(int a) {
        element(a >= 0 && a < told.acts.size());
    }

    private static int bits(Iterable<Integer> of) {
        int bits = 0;
        for (int i : of) bits |= 1 << i;
        return bits;
    }

    int feed(int a, int b, int c, int d, int e) {
        if (tape.length + 20 > 600) return -1;
        java.nio.ByteBuffer all = java.nio.ByteBuffer.allocate(tape.length + 20);
        all.put(tape).putInt(a).putInt(b).putInt(c).putInt(d).putInt(e);
        tape = all.array();
        return tape.length;
    }

    private String take(int n, int most) {
        arg(n >= 0 && n <= tape.length && n <= most);
        String text = new String(tape, 0, n, java.nio.charset.StandardCharsets.ISO_8859_1);
        tape = new byte[0];
        place = -1;
        return text;
    }

    int family(int n) {
        String text = take(n, 600);
        try {
            told = new Told(text);
        } catch (Fault f) {
            place = f.place;
            return f.kind - 10;
        }
        law = without;
        now = new World(told, law);
        book = new ArrayList<>();
        past.clear();
        images.clear();
        return told.puppets.size();
    }

    int law(int n) {
        String text = take(n, 150);
        try {
            law = lawOf(text);
        } catch (Fault f) {
            place = f.place;
            return f.kind - 10;
        }
        now.law = law;
        past.clear();
        return 1;
    }

    int book(int n) {
        String text = take(n, 150);
        List<Line> lines = new ArrayList<>();
        try {
            Tokens t = new Tokens(text);
            while (!t.end()) {
                int y = t.number(1, 60);
                if (lines.size() == 12) throw new Fault(3, t.before());
                int p = t.number(0, told.puppets.size() - 1);
                int h = t.number(0, told.hands.size() - 1);
                lines.add(new Line(y, p, h));
                t.sign(";");
            }
        } catch (Fault f) {
            place = f.place;
            return f.kind - 10;
        }
        book = lines;
        return lines.size();
    }

    int fault() {
        return place;
    }

    int told(int what) {
        arg(what >= 0 && what < 7);
        return new int[] {told.hands.size(), told.puppets.size(), told.acts.size(), now.year, now.living().size(),
            now.allStrings(), book.size()}[what];
    }

    int hand(int hand, int what) {
        h(hand);
        arg(what >= 0 && what < 6);
        Hand h = told.hands.get(hand);
        int life = now.alive(hand) ? 1 : now.hands.get(hand).dead ? 2 : 0;
        return new int[] {h.limp, h.born, h.death, life, bits(now.hands.get(hand).works),
            life == 0 ? 0 : now.year - h.born}[what];
    }

    int puppet(int puppet, int what) {
        p(puppet);
        arg(what >= 0 && what < 6);
        Puppet p = told.puppets.get(puppet);
        List<Integer> w = now.workers(puppet);
        return new int[] {p.fall, p.needs, now.strings[puppet], bits(w), p.needs - w.size(), now.last[puppet]}[what];
    }

    int act(int act, int what) {
        a(act);
        arg(what >= 0 && what < 3);
        Act a = told.acts.get(act);
        return new int[] {a.laughs, bits(a.puppets),
            a.puppets.stream().mapToInt(p -> told.puppets.get(p).needs).sum()}[what];
    }

    int score(int puppet, int hand) {
        p(puppet);
        h(hand);
        return law.value(now, puppet, hand);
    }

    int chooses(int puppet) {
        p(puppet);
        return now.chooses(puppet);
    }

    int years(int n) {
        arg(n >= 1 && n <= 60);
        for (int i = 0; i < n && now.year < 200; i++) {
            past.add(now.copy());
            now.pass();
        }
        return now.year;
    }

    int undo(int n) {
        arg(n >= 1 && n <= 60);
        int undone = 0;
        while (undone < n && !past.isEmpty()) {
            now = past.remove(past.size() - 1);
            undone++;
        }
        return undone;
    }

    int since(int hand, int puppet) {
        h(hand);
        p(puppet);
        return now.hands.get(hand).since[puppet];
    }

    int chose(int hand) {
        h(hand);
        return now.hands.get(hand).chose;
    }

    int ahead(int puppet, int years) {
        p(puppet);
        arg(years >= 0 && years <= 60);
        World w = now.copy();
        for (int i = 0; i < years; i++) w.pass();
        return bits(w.workers(puppet));
    }

    int when(int hand, int puppet) {
        h(hand);
        p(puppet);
        World w = now.copy();
        for (int i = 0; i < 60; i++) {
            w.pass();
            if (w.workers(puppet).contains(hand)) return w.year;
        }
        return -1;
    }

    private Casting castOf(World w, int act, List<Integer> living) {
        Act a = told.acts.get(act);
        return new Casting(w, a.puppets, java.util.Collections.nCopies(a.puppets.size(), a.laughs), living);
    }

    private int played(World w, List<Integer> living) {
        int bits = 0;
        for (int a = 0; a < told.acts.size(); a++) if (castOf(w, a, living).count > 0) bits |= 1 << a;
        return bits;
    }

    int last(int act) {
        a(act);
        World w = now.copy();
        for (int i = 0; i < 60; i++) {
            w.pass();
            if (castOf(w, act, w.living()).count == 0) return w.year;
        }
        return -1;
    }

    int dies(int hand) {
        h(hand);
        if (!now.alive(hand)) return -1;
        int n = now.hands.get(hand).works.size();
        now.bury(hand);
        past.clear();
        return n;
    }

    int string(int puppet, int n) {
        p(puppet);
        arg(n >= 1 && n <= 30);
        now.strings[puppet] = Math.min(30, now.strings[puppet] + n);
        past.clear();
        return now.strings[puppet];
    }

    int give(int puppet, int hand, int other) {
        p(puppet);
        h(hand);
        h(other);
        if (!now.workers(puppet).contains(hand) || !now.may(other, puppet)) return 0;
        now.hands.get(hand).works.remove(puppet);
        now.last[puppet] = hand;
        now.hands.get(other).works.add(puppet);
        now.hands.get(other).since[puppet] = now.year;
        past.clear();
        return 1;
    }

    int casts(int act) {
        a(act);
        return castOf(now, act, now.living()).count;
    }

    int cast(int act, int puppet) {
        a(act);
        p(puppet);
        Casting c = castOf(now, act, now.living());
        int i = told.acts.get(act).puppets.indexOf(puppet);
        return i < 0 || c.first == null ? 0 : c.first[i];
    }

    int lacking(int act) {
        a(act);
        List<Integer> sets = new ArrayList<>();
        int all = bits(told.acts.get(act).puppets);
        for (int set = 1; set < 256; set++) {
            if ((set | all) != all) continue;
            int need = 0;
            for (int p = 0; p < 8; p++) if ((set >> p & 1) == 1) need += told.puppets.get(p).needs;
            int have = 0;
            for (int h : now.living()) if ((bits(told.hands.get(h).quarrels) & set) != set) have++;
            if (need > have) sets.add(set);
        }
        sets.sort((x, y) -> Integer.bitCount(x) != Integer.bitCount(y) ? Integer.bitCount(x) - Integer.bitCount(y) : x - y);
        return sets.isEmpty() ? 0 : sets.get(0);
    }

    int played() {
        return played(now, now.living());
    }

    int cost(int hand) {
        h(hand);
        List<Integer> others = now.living();
        others.remove((Integer) hand);
        return Integer.bitCount(played() & ~played(now, others));
    }

    int dearest() {
        int best = -1;
        for (int h : now.living()) if (best < 0 || cost(h) > cost(best)) best = h;
        return best;
    }

    int lies(int puppet, int hand) {
        p(puppet);
        h(hand);
        return (told.puppets.get(puppet).fall + 3 * told.hands.get(hand).limp + now.strings[puppet]) % 16;
    }

    int dropped(int puppet, int lie) {
        p(puppet);
        arg(lie >= 0 && lie < 16);
        List<Integer> who = now.living();
        who.removeIf(h -> lies(puppet, h) != lie);
        return bits(who);
    }

    private int right(World w) {
        boolean[] right = new boolean[book.size()];
        for (int y = 1; y <= 60; y++) {
            w.pass();
            for (int i = 0; i < right.length; i++) {
                Line l = book.get(i);
                if (l.year == y) right[i] = w.workers(l.puppet).contains(l.hand);
            }
        }
        int n = 0;
        while (n < right.length && right[n]) n++;
        return n;
    }

    int right() {
        return right(new World(told, law));
    }

    int limps(int hand) {
        h(hand);
        int bits = 0;
        for (int l = 0; l < 10; l++) {
            World w = new World(told, law);
            w.hands.get(hand).limp = l;
            if (right(w) == book.size()) bits |= 1 << l;
        }
        return bits;
    }

    /** Whether the hands from i on find nights below most. */
    private boolean settle(List<Integer> who, int[] night, int i, int most) {
        if (i == who.size()) return true;
        for (int n = 0; n < most; n++) {
            boolean free = true;
            for (int j = 0; j < i; j++) free &= night[j] != n || !told.silent(who.get(i), who.get(j));
            night[i] = n;
            if (free && settle(who, night, i + 1, most)) return true;
        }
        return false;
    }

    int nights() {
        int most = 0;
        while (!settle(now.living(), new int[9], 0, most)) most++;
        return most;
    }

    int night(int hand) {
        h(hand);
        int[] night = new int[9];
        settle(now.living(), night, 0, nights());
        int i = now.living().indexOf(hand);
        return i < 0 ? -1 : night[i];
    }

    int fair(int acts) {
        arg(acts >= 0 && acts >> told.acts.size() == 0);
        int[] laughs = new int[8];
        for (int a = 0; a < told.acts.size(); a++) {
            if ((acts >> a & 1) == 1) for (int p : told.acts.get(a).puppets) laughs[p] += told.acts.get(a).laughs;
        }
        int sum = 0;
        for (int p = 0; p < now.strings.length; p++) sum += Math.max(0, laughs[p] - now.strings[p]);
        return sum;
    }

    int gets(int hand, int e, int how) {
        h(hand);
        arg(e >= 0 && e <= 999);
        arg(how == 0 || how == 1);
        int[] claims = new int[9];
        int all = 0;
        for (int h : now.living()) {
            for (int p : now.hands.get(h).works) claims[h] += now.strings[p];
            all += claims[h];
        }
        if (e >= all) return claims[hand];
        if (how == 0) return e * claims[hand] / all;
        int bound = 300;
        while (true) {
            int given = 0;
            for (int c : claims) given += Math.min(c, bound);
            if (given <= e) return Math.min(bound, claims[hand]);
            bound--;
        }
    }

    int owes(int hand, int other) {
        h(hand);
        h(other);
        return told.debts[hand][other];
    }

    int net(int hand) {
        h(hand);
        int net = 0;
        for (int g = 0; g < 9; g++) net += told.debts[g][hand] - told.debts[hand][g];
        return net;
    }

    int heir(int puppet, int hand) {
        p(puppet);
        h(hand);
        if (!now.workers(puppet).contains(hand)) return -1;
        World w = now.copy();
        w.bury(hand);
        return w.chooses(puppet);
    }

    int orphans() {
        return now.orphans();
    }

    int idle() {
        List<Integer> who = now.living();
        who.removeIf(h -> !now.hands.get(h).works.isEmpty());
        return bits(who);
    }

    int practise(int hand, int puppet) {
        h(hand);
        p(puppet);
        for (int l = 0; l < 10; l++) {
            World w = now.copy();
            w.hands.get(hand).limp = l;
            if (w.chooses(puppet) == hand) return l;
        }
        return -1;
    }

    int mute() {
        int bits = 0;
        for (int p = 0; p < now.strings.length; p++) {
            for (int h : now.workers(p)) for (int g : now.workers(p)) if (told.silent(h, g)) bits |= 1 << p;
        }
        return bits;
    }

    int slack(int n) {
        arg(n >= 0 && n <= 31);
        int bits = 0;
        for (int p = 0; p < now.strings.length; p++) if (now.strings[p] < n) bits |= 1 << p;
        return bits;
    }

    int fades(int puppet) {
        p(puppet);
        World w = now.copy();
        if (w.strings[puppet] == 0) return 0;
        for (int i = 0; i < 60; i++) {
            w.pass();
            if (w.strings[puppet] == 0) return w.year;
        }
        return -1;
    }

    boolean both(int act, int other) {
        a(act);
        a(other);
        arg(act != other);
        Act x = told.acts.get(act);
        Act y = told.acts.get(other);
        List<Integer> puppets = new ArrayList<>(x.puppets);
        puppets.addAll(y.puppets);
        if (new HashSet<>(puppets).size() < puppets.size()) return false;
        List<Integer> laughs = new ArrayList<>(java.util.Collections.nCopies(x.puppets.size(), x.laughs));
        laughs.addAll(java.util.Collections.nCopies(y.puppets.size(), y.laughs));
        return new Casting(now, puppets, laughs, now.living()).count > 0;
    }

    int thumbs(int act) {
        a(act);
        Casting c = castOf(now, act, now.living());
        return c.count == 0 ? 0 : c.inEach;
    }

    int first(int what) {
        arg(what == 0 || what == 1);
        int best = -1;
        if (what == 0) {
            for (int h : now.living()) if (best < 0 || told.hands.get(h).born < told.hands.get(best).born) best = h;
        } else {
            for (int h = 0; h < told.hands.size(); h++) if (best < 0 || net(h) > net(best)) best = h;
        }
        return best;
    }

    int reach(int hand) {
        h(hand);
        int bits = 0;
        for (int a = 0; a < told.acts.size(); a++) {
            Casting c = castOf(now, a, now.living());
            for (int p = 0; p < 8; p++) if ((c.someOf[p] >> hand & 1) == 1) bits |= 1 << p;
        }
        return bits;
    }

    int speaks() {
        int n = 0;
        for (int h : now.living()) for (int g : now.living()) if (h < g && !told.silent(h, g)) n++;
        return n;
    }

    private World fated(int seed, int q, int n) {
        World w = now.copy();
        long s = seed & 0xffffffffL;
        for (int i = 0; i < n; i++) {
            w.year++;
            Set<Integer> doomed = new TreeSet<>();
            for (int h : w.living()) {
                s = (s * 1103515245L + 12345L) & 0xffffffffL;
                if ((s / 65536 % 32768) % 16 < q) doomed.add(h);
            }
            w.pass(doomed);
        }
        return w;
    }

    int fates(int seed, int q, int n, int what) {
        arg(q >= 0 && q <= 16);
        arg(n >= 1 && n <= 40);
        arg(what >= 0 && what < 4);
        World w = fated(seed, q, n);
        return new int[] {w.living().size(), Integer.bitCount(w.orphans()),
            what == 2 ? Integer.bitCount(played(w, w.living())) : 0, w.allStrings()}[what];
    }

    int span(int seed, int many, int q, int n, int what, int hand) {
        arg(many >= 1 && many <= 20 && q >= 0 && q <= 16 && n >= 1 && n <= 40 && what >= 0 && what < 3
            && hand >= 0 && hand < told.hands.size());
        int least = 99;
        int most = -1;
        int lives = 0;
        for (int i = 0; i < many; i++) {
            World w = fated(seed + i, q, n);
            least = Math.min(least, w.living().size());
            most = Math.max(most, w.living().size());
            if (w.alive(hand)) lives++;
        }
        return new int[] {least, most, lives}[what];
    }

    int image() {
        if (images.size() == 3) return -1;
        images.add(now.copy());
        return images.size();
    }

    int restore() {
        if (images.isEmpty()) return -1;
        now = images.remove(images.size() - 1);
        now.law = law;
        past.clear();
        return images.size();
    }

    int status(int what) {
        return what == 0 || what == 1 ? refused[what] : -1;
    }

    int count(int what) {
        return what == 0 ? images.size() : what == 1 ? tape.length : what == 2 ? past.size() : -1;
    }
}
