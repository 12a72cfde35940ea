import java.nio.charset.StandardCharsets;
import java.util.ArrayDeque;
import java.util.ArrayList;
import java.util.Deque;
import java.util.List;
import java.util.NoSuchElementException;
import java.util.Random;
import java.util.Set;
import java.util.TreeSet;
import java.util.function.Supplier;

/**
 * Random runs of calls, each call asked of the class and of a second, slow one that is written here straight from
 * the document, by sets and lists: both must answer and throw the same.
 */
public final class ModelTest {
    private static final int RUNS = 1500;
    private static final int CALLS = 300;

    interface Condition {
        boolean test(int place, int who, int known, int day);
    }

    interface Sum {
        int of(int place, int who, int known, int day);
    }

    static final class Clause {
        boolean always;
        int deed;
        Condition condition = (p, w, k, d) -> true;
    }

    static final class Person {
        boolean alive = true;
        Set<Integer> knows = new TreeSet<>();
        List<Integer> habit = new ArrayList<>();
        int next;
        int fear;
        Set<Integer> seen = new TreeSet<>();
        int taken;
        int spouse = -1;

        Person copy() {
            Person p = new Person();
            p.alive = alive;
            p.knows.addAll(knows);
            p.habit.addAll(habit);
            p.next = next;
            p.fear = fear;
            p.seen.addAll(seen);
            p.taken = taken;
            p.spouse = spouse;
            return p;
        }

        int matter(int ahead) {
            return habit.get((next + ahead) % habit.size());
        }
    }

    static final class State {
        List<Clause> code;
        List<Person> people = new ArrayList<>();
        int watch = 100;
        int term = 3;
        int[] harm = {1, 1, 1, 1, 1, 1, 1, 1};
        int day;
        int seed = 1;
        int texts;
        int arrests;
        int harmDone;
        int kept;
        List<int[]> log = new ArrayList<>();

        State copy() {
            State s = new State();
            s.code = code;
            for (Person p : people) {
                s.people.add(p.copy());
            }
            s.watch = watch;
            s.term = term;
            s.harm = harm.clone();
            s.day = day;
            s.seed = seed;
            s.texts = texts;
            s.arrests = arrests;
            s.harmDone = harmDone;
            s.kept = kept;
            s.log.addAll(log);
            return s;
        }

        int clauses() {
            return code == null ? 0 : code.size();
        }

        boolean bears(int k, int matter, int c, int onDay) {
            Clause clause = code.get(k);
            return clause.deed == matter / 8
                    && clause.condition.test(matter % 8, c, people.get(c).knows.size(), onDay);
        }

        boolean forbids(int k, int matter, int c, int onDay) {
            return !code.get(k).always && bears(k, matter, c, onDay);
        }

        boolean demands(int k, int matter, int c, int onDay) {
            return code.get(k).always && bears(k, matter, c, onDay);
        }

        boolean inForce(int k) {
            return people.stream().anyMatch(p -> p.alive && p.knows.contains(k));
        }

        Set<Integer> force() {
            Set<Integer> s = new TreeSet<>();
            for (int k = 0; k < clauses(); k++) {
                if (inForce(k)) {
                    s.add(k);
                }
            }
            return s;
        }

        Set<Integer> forbidden(int matter, int c, int onDay) {
            Set<Integer> s = new TreeSet<>();
            for (int k : force()) {
                if (forbids(k, matter, c, onDay)) {
                    s.add(k);
                }
            }
            return s;
        }

        boolean may(int matter, int c, int onDay) {
            return people.get(c).knows.stream().noneMatch(k -> forbids(k, matter, c, onDay));
        }

        int draw() {
            seed = seed * 1103515245 + 12345;
            return (seed >> 16 & 0x7fff) % 100;
        }

        void pass() {
            List<Person> there = new ArrayList<>();
            List<Integer> done = new ArrayList<>();
            List<Person> held = new ArrayList<>();
            for (int c = 0; c < people.size(); c++) {
                Person p = people.get(c);
                if (p.taken > 0) {
                    held.add(p);
                }
                if (!p.alive || p.taken > 0) {
                    continue;
                }
                there.add(p);
                int m = p.matter(0);
                if (!may(m, c, day) || p.seen.contains(m) && draw() < p.fear) {
                    kept++;
                } else {
                    done.add(c);
                }
            }
            for (int c : done) {
                Person p = people.get(c);
                int m = p.matter(0);
                Set<Integer> broken = forbidden(m, c, day);
                if (broken.isEmpty()) {
                    continue;
                }
                harmDone += harm[m / 8];
                if (draw() < watch) {
                    p.taken = term;
                    arrests++;
                    log.add(0, new int[] {day, c, m, broken.iterator().next()});
                    if (log.size() > 60) {
                        log.remove(60);
                    }
                    for (Person q : there) {
                        if (q.matter(0) % 8 == m % 8) {
                            q.seen.add(m);
                        }
                    }
                }
            }
            for (Person p : held) {
                p.taken--;
            }
            for (Person p : people) {
                p.next = (p.next + 1) % p.habit.size();
            }
            day++;
        }

        int risk(int c, int n) {
            int sum = 0;
            for (int d = 0; d < n; d++) {
                int m = people.get(c).matter(d);
                if (may(m, c, day + d) && !forbidden(m, c, day + d).isEmpty()) {
                    sum++;
                }
            }
            return sum;
        }

        int riskOfAll(int n) {
            int sum = 0;
            for (int c = 0; c < people.size(); c++) {
                sum += people.get(c).alive ? risk(c, n) : 0;
            }
            return sum;
        }

        void marry(int a, int b) {
            Person p = people.get(a);
            Person q = people.get(b);
            p.spouse = b;
            q.spouse = a;
            p.knows.addAll(q.knows);
            q.knows.addAll(p.knows);
        }

        int seenSum() {
            return people.stream().mapToInt(p -> p.seen.size()).sum();
        }

        int takenBits() {
            int bits = 0;
            for (int c = 0; c < people.size(); c++) {
                bits |= people.get(c).taken > 0 ? 1 << c : 0;
            }
            return bits;
        }

        boolean contradict(int a, int b) {
            for (int c = 0; c < people.size(); c++) {
                for (int m = 0; m < 64 && people.get(c).alive; m++) {
                    if (forbids(a, m, c, day) && demands(b, m, c, day)
                            || forbids(b, m, c, day) && demands(a, m, c, day)) {
                        return true;
                    }
                }
            }
            return false;
        }
    }

    static final class Wrong extends Exception {
        private static final long serialVersionUID = 1L;
        final int at;

        Wrong(int at) {
            super("wrong", null, false, false);
            this.at = at;
        }
    }

    /** Reads texts letter by letter. */
    static final class Parser {
        final String s;
        int at;

        Parser(String s) {
            this.s = s;
            blanks();
        }

        void blanks() {
            while (at < s.length() && s.charAt(at) == ' ') {
                at++;
            }
        }

        String run(String set) {
            int to = at;
            while (to < s.length() && set.indexOf(s.charAt(to)) >= 0) {
                to++;
            }
            return s.substring(at, to);
        }

        String word() {
            return run("abcdefghijklmnopqrstuvwxyz");
        }

        String digits() {
            return run("0123456789");
        }

        boolean accept(String w) {
            boolean there = w.length() == 1 && !Character.isLetter(w.charAt(0)) ? s.startsWith(w, at) : word().equals(w);
            if (there) {
                at += w.length();
                blanks();
            }
            return there;
        }

        void expect(String w) throws Wrong {
            if (!accept(w)) {
                throw new Wrong(at);
            }
        }

        boolean atEnd() {
            return at == s.length();
        }

        int number(int low, int high) throws Wrong {
            String d = digits();
            if (d.isEmpty() || d.length() > 3 || Integer.parseInt(d) < low || Integer.parseInt(d) > high) {
                throw new Wrong(at);
            }
            at += d.length();
            blanks();
            return Integer.parseInt(d);
        }

        List<Clause> code() throws Wrong {
            List<Clause> all = new ArrayList<>();
            if (atEnd()) {
                return all;
            }
            do {
                if (all.size() == 12) {
                    throw new Wrong(at);
                }
                Clause c = new Clause();
                c.always = accept("always");
                if (!c.always) {
                    expect("never");
                }
                c.deed = number(0, 7);
                if (accept("if")) {
                    c.condition = any(0);
                }
                all.add(c);
            } while (accept(";"));
            if (!atEnd()) {
                throw new Wrong(at);
            }
            return all;
        }

        Condition any(int depth) throws Wrong {
            Condition c = all(depth);
            while (accept("or")) {
                Condition l = c;
                Condition r = all(depth);
                c = (p, w, k, d) -> l.test(p, w, k, d) || r.test(p, w, k, d);
            }
            return c;
        }

        Condition all(int depth) throws Wrong {
            Condition c = atom(depth);
            while (accept("and")) {
                Condition l = c;
                Condition r = atom(depth);
                c = (p, w, k, d) -> l.test(p, w, k, d) && r.test(p, w, k, d);
            }
            return c;
        }

        Condition atom(int depth) throws Wrong {
            int begin = at;
            if (accept("feast")) {
                return (p, w, k, d) -> d % 7 == 0;
            }
            if (accept("not")) {
                if (depth == 6) {
                    throw new Wrong(begin);
                }
                Condition c = atom(depth + 1);
                return (p, w, k, d) -> !c.test(p, w, k, d);
            }
            if (accept("(")) {
                if (depth == 6) {
                    throw new Wrong(begin);
                }
                Condition c = any(depth + 1);
                expect(")");
                return c;
            }
            Sum l = sum();
            boolean less = accept("<");
            if (!less) {
                expect(">");
            }
            Sum r = sum();
            return (p, w, k, d) -> less ? l.of(p, w, k, d) < r.of(p, w, k, d) : l.of(p, w, k, d) > r.of(p, w, k, d);
        }

        Sum sum() throws Wrong {
            Sum s = part();
            while (accept("+")) {
                Sum l = s;
                Sum r = part();
                s = (p, w, k, d) -> l.of(p, w, k, d) + r.of(p, w, k, d);
            }
            return s;
        }

        Sum part() throws Wrong {
            if (accept("place")) {
                return (p, w, k, d) -> p;
            }
            if (accept("day")) {
                return (p, w, k, d) -> d;
            }
            if (accept("who")) {
                return (p, w, k, d) -> w;
            }
            if (accept("known")) {
                return (p, w, k, d) -> k;
            }
            int n = number(0, 999);
            return (p, w, k, d) -> n;
        }

        int matter() throws Wrong {
            String d = digits();
            if (!d.matches("[0-7][0-7]")) {
                throw new Wrong(at);
            }
            at += 2;
            blanks();
            return (d.charAt(0) - '0') * 8 + d.charAt(1) - '0';
        }

        int living(State st, boolean single, int not) throws Wrong {
            int begin = at;
            int c = number(0, st.people.size() - 1);
            if (c == not || !st.people.get(c).alive || single && st.people.get(c).spouse >= 0) {
                throw new Wrong(begin);
            }
            return c;
        }

        void republic(State st) throws Wrong {
            int lines = 0;
            if (atEnd()) {
                return;
            }
            do {
                if (lines++ == 14) {
                    throw new Wrong(at);
                }
                line(st);
            } while (accept(";"));
            if (!atEnd()) {
                throw new Wrong(at);
            }
        }

        void line(State st) throws Wrong {
            int begin = at;
            if (accept("watch")) {
                st.watch = number(0, 100);
            } else if (accept("term")) {
                st.term = number(1, 30);
            } else if (accept("harm")) {
                int d = number(0, 7);
                st.harm[d] = number(0, 99);
            } else if (accept("wed")) {
                int a = living(st, true, -1);
                st.marry(a, living(st, true, a));
            } else if (accept("seen")) {
                int c = living(st, false, -1);
                st.people.get(c).seen.add(matter());
            } else {
                expect("citizen");
                if (st.people.size() == 10) {
                    throw new Wrong(begin);
                }
                Person p = new Person();
                expect("fear");
                p.fear = number(0, 100);
                expect("does");
                do {
                    if (p.habit.size() == 6) {
                        throw new Wrong(at);
                    }
                    p.habit.add(matter());
                } while (!digits().isEmpty());
                if (accept("knows")) {
                    do {
                        p.knows.add(number(0, st.clauses() - 1));
                    } while (!digits().isEmpty());
                }
                st.people.add(p);
            }
        }
    }

    /** The second class. */
    static final class Plain {
        State s = new State();
        String tape = "";
        int fault = -1;
        State image;
        final Deque<State> acts = new ArrayDeque<>();

        static int bits(Iterable<Integer> set) {
            int b = 0;
            for (int i : set) {
                b |= 1 << i;
            }
            return b;
        }

        static long longBits(Iterable<Integer> set) {
            long b = 0;
            for (int i : set) {
                b |= 1L << i;
            }
            return b;
        }

        Person one(int c) {
            if (c < 0 || c >= s.people.size()) {
                throw new IndexOutOfBoundsException();
            }
            return s.people.get(c);
        }

        void index(int i, int n) {
            if (i < 0 || i >= n) {
                throw new IndexOutOfBoundsException();
            }
        }

        void number(int n, int low, int high) {
            if (n < low || n > high) {
                throw new IllegalArgumentException();
            }
        }

        void two(int a, int b) {
            if (a == b) {
                throw new IllegalArgumentException();
            }
        }

        void state(boolean fine) {
            if (!fine) {
                throw new IllegalStateException();
            }
        }

        void what(int what, int n) {
            if (what < 0 || what >= n) {
                throw new NoSuchElementException();
            }
        }

        void act() {
            acts.push(s.copy());
            if (acts.size() > 10) {
                acts.removeLast();
            }
        }

        boolean cut(int n) {
            if (n < 0 || n > tape.length()) {
                return false;
            }
            tape = tape.substring(0, n);
            return true;
        }

        int code() {
            String text = tape;
            tape = "";
            List<Clause> got;
            try {
                got = new Parser(text).code();
                fault = -1;
            } catch (Wrong w) {
                fault = w.at;
                throw new IllegalArgumentException();
            }
            state(s.code == null && s.people.isEmpty());
            s.code = got;
            acts.clear();
            return got.size();
        }

        int republic() {
            String text = tape;
            tape = "";
            State draft = s.copy();
            try {
                new Parser(text).republic(draft);
                fault = -1;
            } catch (Wrong w) {
                fault = w.at;
                throw new IllegalArgumentException();
            }
            if (s.texts == 12) {
                throw new UnsupportedOperationException();
            }
            s = draft;
            acts.clear();
            return ++s.texts;
        }

        int clause(int k, int what) {
            index(k, s.clauses());
            what(what, 5);
            List<Integer> set = new ArrayList<>();
            switch (what) {
                case 0:
                    return s.code.get(k).always ? 1 : 0;
                case 1:
                    return s.code.get(k).deed;
                case 2:
                    return s.inForce(k) ? 1 : 0;
                case 3:
                    for (int c = 0; c < s.people.size(); c++) {
                        if (one(c).alive && one(c).knows.contains(k)) {
                            set.add(c);
                        }
                    }
                    return bits(set);
                default:
                    for (int o = 0; o < s.clauses(); o++) {
                        if (s.contradict(k, o)) {
                            set.add(o);
                        }
                    }
                    return bits(set);
            }
        }

        int citizen(int c, int what) {
            Person p = one(c);
            what(what, 9);
            Set<Integer> pool = new TreeSet<>(p.knows);
            if (p.spouse >= 0) {
                pool.addAll(one(p.spouse).knows);
            }
            int[] all = {p.alive ? 1 : 0, bits(p.knows), p.fear, p.taken, p.spouse, p.habit.size(), p.matter(0),
                bits(pool), p.seen.size()};
            return all[what];
        }

        int matter(int m, int c, int what) {
            index(m, 64);
            state(one(c).alive);
            what(what, 4);
            Set<Integer> asked = new TreeSet<>();
            for (int k : s.force()) {
                if (s.demands(k, m, c, s.day)) {
                    asked.add(k);
                }
            }
            boolean may = s.may(m, c, s.day);
            int[] all = {bits(s.forbidden(m, c, s.day)), bits(asked), may ? 1 : 0,
                may && !one(c).seen.contains(m) ? 1 : 0};
            return all[what];
        }

        int tell(int c, int k) {
            Person p = one(c);
            index(k, s.clauses());
            state(p.alive && !p.knows.contains(k));
            act();
            p.knows.add(k);
            return p.knows.size();
        }

        int die(int c) {
            Person p = one(c);
            state(p.alive);
            act();
            Set<Integer> gone = s.force();
            p.alive = false;
            p.taken = 0;
            if (p.spouse >= 0) {
                one(p.spouse).spouse = -1;
                p.spouse = -1;
            }
            gone.removeAll(s.force());
            return bits(gone);
        }

        int wed(int a, int b) {
            Person p = one(a);
            Person q = one(b);
            two(a, b);
            state(p.alive && q.alive && p.spouse < 0 && q.spouse < 0);
            act();
            s.marry(a, b);
            return bits(p.knows);
        }

        int baby(int c) {
            Person p = one(c);
            state(p.alive);
            if (s.people.size() == 10) {
                throw new UnsupportedOperationException();
            }
            act();
            Person q = new Person();
            q.habit.addAll(p.habit);
            q.fear = p.fear;
            s.people.add(q);
            return s.people.size() - 1;
        }

        int release(int c) {
            Person p = one(c);
            state(p.alive && p.taken > 0);
            act();
            int left = p.taken;
            p.taken = 0;
            return left;
        }

        int days(int n) {
            number(n, 1, 50);
            act();
            int before = s.arrests;
            for (int i = 0; i < n; i++) {
                s.pass();
            }
            return s.arrests - before;
        }

        boolean anybody() {
            return s.people.stream().anyMatch(p -> p.alive);
        }

        int nobody() {
            Set<Integer> deeds = new TreeSet<>();
            for (int d = 0; d < 8 && anybody(); d++) {
                boolean all = true;
                for (int m = 8 * d; m < 8 * d + 8; m++) {
                    for (int c = 0; c < s.people.size(); c++) {
                        all &= !one(c).alive || !s.forbidden(m, c, s.day).isEmpty();
                    }
                }
                if (all) {
                    deeds.add(d);
                }
            }
            return bits(deeds);
        }

        int relief() {
            int n = s.clauses();
            boolean[][] clash = new boolean[n][n];
            for (int a = 0; a < n; a++) {
                for (int b = 0; b < n; b++) {
                    clash[a][b] = s.contradict(a, b);
                }
            }
            int best = (1 << n) - 1;
            for (int set = (1 << n) - 1; set >= 0; set--) {
                boolean fine = true;
                for (int a = 0; a < n; a++) {
                    for (int b = 0; b < n; b++) {
                        fine &= !clash[a][b] || (set >> a & 1) == 1 || (set >> b & 1) == 1;
                    }
                }
                if (fine && Integer.bitCount(set) <= Integer.bitCount(best)) {
                    best = set;
                }
            }
            return best;
        }

        List<Set<Integer>> codes(String rows) {
            List<Set<Integer>> found = new ArrayList<>();
            if (rows.length() % 3 != 0) {
                throw new IllegalArgumentException();
            }
            for (int i = 0; i < rows.length(); i += 3) {
                int c = rows.charAt(i);
                if (c >= s.people.size() || !one(c).alive || rows.charAt(i + 1) > 63 || rows.charAt(i + 2) > 1) {
                    throw new IllegalArgumentException();
                }
            }
            for (int set = 0; set < 1 << s.clauses(); set++) {
                Set<Integer> codes = new TreeSet<>();
                boolean fine = true;
                for (int k = 0; k < s.clauses(); k++) {
                    if ((set >> k & 1) == 1) {
                        codes.add(k);
                        fine &= !s.code.get(k).always;
                    }
                }
                for (int i = 0; i < rows.length() && fine; i += 3) {
                    fine = broken(codes, rows.charAt(i + 1), rows.charAt(i)) == (rows.charAt(i + 2) == 1);
                }
                if (fine) {
                    found.add(codes);
                }
            }
            return found;
        }

        boolean broken(Set<Integer> codes, int m, int c) {
            return codes.stream().anyMatch(k -> s.forbids(k, m, c, s.day));
        }

        int read(int what) {
            String rows = tape;
            tape = "";
            List<Set<Integer>> found = codes(rows);
            what(what, 3);
            if (what == 0 || found.isEmpty()) {
                return found.size();
            }
            Set<Integer> set = new TreeSet<>(found.get(0));
            for (Set<Integer> f : found) {
                if (what == 1) {
                    set.retainAll(f);
                } else {
                    set.addAll(f);
                }
            }
            return bits(set);
        }

        int next(int c) {
            String rows = tape;
            tape = "";
            Person p = one(c);
            List<Set<Integer>> found = codes(rows);
            state(p.alive);
            int best = -1;
            long least = Long.MAX_VALUE;
            for (int m = 0; m < 64 && found.size() > 1; m++) {
                int mm = m;
                long hit = found.stream().filter(f -> broken(f, mm, c)).count();
                long greater = Math.max(hit, found.size() - hit);
                if (greater < least) {
                    least = greater;
                    best = m;
                }
            }
            return best;
        }

        int cover() {
            int best = -1;
            for (int set = 0; set < 1 << s.people.size(); set++) {
                Set<Integer> known = new TreeSet<>();
                boolean fine = true;
                for (int c = 0; c < s.people.size(); c++) {
                    if ((set >> c & 1) == 1) {
                        fine &= one(c).alive;
                        known.addAll(one(c).knows);
                    }
                }
                if (fine && known.containsAll(s.force()) && (best < 0 || Integer.bitCount(set) < Integer.bitCount(best))) {
                    best = set;
                }
            }
            return best;
        }

        int dies(int c) {
            state(one(c).alive);
            Set<Integer> gone = s.force();
            State then = s.copy();
            then.people.get(c).alive = false;
            gone.removeAll(then.force());
            return bits(gone);
        }

        int heirs(int k) {
            number(k, 1, 10);
            if (s.people.stream().filter(p -> p.alive).count() < k) {
                return -1;
            }
            int sum = 0;
            for (int f : s.force()) {
                sum += Math.max(0, k - (int) s.people.stream().filter(p -> p.alive && p.knows.contains(f)).count());
            }
            return sum;
        }

        int risk(int c, int n) {
            Person p = one(c);
            number(n, 1, 60);
            state(p.alive);
            return s.risk(c, n);
        }

        int safe(int c, int d) {
            Person p = one(c);
            index(d, 8);
            state(p.alive);
            for (int place = 0; place < 8; place++) {
                if (s.forbidden(8 * d + place, c, s.day).isEmpty()) {
                    return place;
                }
            }
            return -1;
        }

        int better(int c, int n) {
            Person p = one(c);
            number(n, 1, 60);
            state(p.alive);
            int best = -1;
            int least = 999;
            for (int later = 0; later < p.habit.size(); later++) {
                State then = s.copy();
                then.people.get(c).next += later;
                int risk = then.risk(c, n);
                if (risk < least) {
                    least = risk;
                    best = later;
                }
            }
            return best;
        }

        int telling(int n, boolean less) {
            number(n, 1, 60);
            int best = -1;
            int least = Integer.MAX_VALUE;
            for (int c = 0; c < s.people.size(); c++) {
                for (int k : s.force()) {
                    if (one(c).alive && !one(c).knows.contains(k)) {
                        State then = s.copy();
                        then.people.get(c).knows.add(k);
                        int risk = then.riskOfAll(n);
                        if (risk < least) {
                            least = risk;
                            best = 100 * c + k;
                        }
                    }
                }
            }
            return !less ? best : best < 0 ? 0 : s.riskOfAll(n) - least;
        }

        int deduced(int c) {
            Person p = one(c);
            state(p.alive);
            Set<Integer> set = new TreeSet<>();
            for (int m : p.seen) {
                set.addAll(s.forbidden(m, c, s.day));
            }
            set.removeAll(p.knows);
            return bits(set);
        }

        int hush(int d) {
            index(d, 8);
            Set<Integer> places = new TreeSet<>();
            for (int place = 0; place < 8 && anybody(); place++) {
                boolean none = true;
                for (int c = 0; c < s.people.size(); c++) {
                    none &= !one(c).alive || !s.may(8 * d + place, c, s.day);
                }
                if (none) {
                    places.add(place);
                }
            }
            return bits(places);
        }

        int usual(int place) {
            index(place, 8);
            int[] times = new int[8];
            for (Person p : s.people) {
                for (int m : p.habit) {
                    times[m / 8] += p.alive && m % 8 == place ? 1 : 0;
                }
            }
            int best = -1;
            for (int d = 7; d >= 0; d--) {
                if (times[d] > 0 && (best < 0 || times[d] >= times[best])) {
                    best = d;
                }
            }
            return best;
        }

        long feared(boolean all) {
            Set<Integer> set = new TreeSet<>();
            for (int m = 0; m < 64 && anybody(); m++) {
                int mm = m;
                if (all ? s.people.stream().allMatch(p -> !p.alive || p.seen.contains(mm))
                        : s.people.stream().noneMatch(p -> p.alive && p.seen.contains(mm))) {
                    set.add(m);
                }
            }
            return longBits(set);
        }

        static State round(State from) {
            State to = from.copy();
            for (int c = 0; c < from.people.size(); c++) {
                for (int m = 0; m < 64 && from.people.get(c).alive; m++) {
                    int others = 0;
                    int have = 0;
                    for (int o = 0; o < from.people.size(); o++) {
                        if (o != c && from.people.get(o).alive) {
                            others++;
                            have += from.people.get(o).seen.contains(m) ? 1 : 0;
                        }
                    }
                    if (2 * have > others) {
                        to.people.get(c).seen.add(m);
                    }
                }
            }
            return to;
        }

        int custom(int n) {
            number(n, 0, 30);
            State then = s;
            for (int i = 0; i < n; i++) {
                then = round(then);
            }
            return then.seenSum();
        }

        int settles() {
            State then = s;
            for (int i = 0; i <= 30; i++) {
                State more = round(then);
                if (more.seenSum() == then.seenSum()) {
                    return i;
                }
                then = more;
            }
            return -1;
        }

        int provoked(int c, boolean second) {
            Person p = one(c);
            state(p.alive);
            List<Integer> worth = new ArrayList<>();
            for (int m : p.habit) {
                worth.add(s.forbidden(m, c, s.day).isEmpty() ? s.harm[m / 8] : -s.harm[m / 8]);
            }
            worth.sort((a, b) -> b - a);
            return !second ? worth.get(0) : worth.size() == 1 ? 0 : worth.get(1);
        }

        int crowd(int place, int ahead) {
            index(place, 8);
            number(ahead, 0, 60);
            Set<Integer> set = new TreeSet<>();
            for (int c = 0; c < s.people.size(); c++) {
                if (one(c).alive && one(c).matter(ahead) % 8 == place) {
                    set.add(c);
                }
            }
            return bits(set);
        }

        int witnesses(int a, int b, int n) {
            Person p = one(a);
            Person q = one(b);
            two(a, b);
            number(n, 1, 60);
            int sum = 0;
            for (int d = 0; d < n; d++) {
                sum += p.matter(d) % 8 == q.matter(d) % 8 ? 1 : 0;
            }
            return sum;
        }

        int trial(int n, int what) {
            number(n, 0, 40);
            what(what, 4);
            State then = s.copy();
            for (int i = 0; i < n; i++) {
                then.pass();
            }
            int[] all = {then.arrests - s.arrests, then.harmDone - s.harmDone, then.takenBits(), then.seenSum()};
            return all[what];
        }

        int span(int n, boolean most) {
            number(n, 0, 40);
            Set<Integer> got = new TreeSet<>();
            for (int seed = 1; seed < 7; seed++) {
                State then = s.copy();
                then.seed = seed;
                for (int i = 0; i < n; i++) {
                    then.pass();
                }
                got.add(then.arrests - s.arrests);
            }
            return most ? ((TreeSet<Integer>) got).last() : ((TreeSet<Integer>) got).first();
        }

        int first() {
            for (int n = 1; n <= 40; n++) {
                if (trial(n, 0) > 0) {
                    return n;
                }
            }
            return -1;
        }

        int led(int c) {
            if (c != -1) {
                one(c);
            }
            Set<Integer> set = new TreeSet<>();
            for (int[] row : s.log) {
                if (c == -1 || row[1] == c) {
                    set.add(row[3]);
                }
            }
            return bits(set);
        }

        int worst() {
            int best = -1;
            long most = 0;
            for (int k = 0; k < s.clauses(); k++) {
                int kk = k;
                long times = s.log.stream().filter(row -> row[3] == kk).count();
                if (times > most) {
                    most = times;
                    best = k;
                }
            }
            return best;
        }

        int log(int ago, int what) {
            what(what, 4);
            return ago < 0 || ago >= s.log.size() ? -1 : s.log.get(ago)[what];
        }

        int seed(int n) {
            int was = s.seed;
            s.seed = n;
            return was;
        }

        boolean undo() {
            if (acts.isEmpty()) {
                return false;
            }
            s = acts.pop();
            return true;
        }

        boolean back() {
            if (image == null) {
                return false;
            }
            s = image.copy();
            acts.clear();
            return true;
        }

        int count(int what) {
            int[] all = {s.code == null ? -1 : s.code.size(), s.people.size(),
                (int) s.people.stream().filter(p -> p.alive).count(), s.texts, s.day, bits(s.force()), s.takenBits(),
                s.arrests, s.harmDone, s.kept, s.log.size(), s.watch, s.term, acts.size()};
            return what < 0 || what > 13 ? -1 : all[what];
        }
    }

    private static final class Run {
        final Random r;
        final EarCode x = new EarCode();
        final Plain y = new Plain();
        final List<String> calls = new ArrayList<>();

        Run(long seed) {
            r = new Random(seed);
        }

        static Object answer(Supplier<Object> call) {
            try {
                Object o = call.get();
                return o instanceof Integer i ? Long.valueOf(i) : o;
            } catch (RuntimeException e) {
                return e.getClass().getSimpleName();
            }
        }

        boolean same(String name, Supplier<Object> a, Supplier<Object> b) {
            Object got = answer(a);
            Object want = answer(b);
            calls.add(name + " = " + got);
            if (got.equals(want)) {
                return true;
            }
            System.out.println(String.join("\n", calls));
            System.out.println("the answer is " + got + ", due is " + want);
            return false;
        }

        boolean feed(String text) {
            for (int from = 0; from < text.length(); from += 20) {
                byte[] b = text.substring(from, Math.min(from + 20, text.length())).getBytes(StandardCharsets.ISO_8859_1);
                int[] v = new int[5];
                for (int i = 0; i < b.length; i++) {
                    v[i / 4] |= (b[i] & 255) << 24 - 8 * (i % 4);
                }
                if (!same("feed", () -> x.feed(v[0], v[1], v[2], v[3], v[4]), () -> {
                    if (y.tape.length() + 20 > 400) {
                        return -1;
                    }
                    StringBuilder all = new StringBuilder(y.tape);
                    for (int n : v) {
                        for (int k = 24; k >= 0; k -= 8) {
                            all.append((char) (n >>> k & 255));
                        }
                    }
                    y.tape = all.toString();
                    return y.tape.length();
                })) {
                    return false;
                }
            }
            calls.add("  fed: " + text);
            return same("end " + text.length(), () -> x.end(text.length()), () -> y.cut(text.length()));
        }

        String blank() {
            return r.nextInt(5) == 0 ? "  " : " ";
        }

        String sum() {
            String[] parts = {"place", "day", "who", "known", "" + r.nextInt(9), "" + r.nextInt(5), "00" + r.nextInt(4)};
            String s = parts[r.nextInt(parts.length)];
            return r.nextInt(4) == 0 ? s + "+" + sum() : s;
        }

        String condition(int depth) {
            int k = r.nextInt(9);
            if (k < 4) {
                return sum() + (r.nextBoolean() ? "<" : " > ") + sum();
            }
            if (k == 4) {
                return "feast";
            }
            if (depth > 6 || r.nextInt(4) == 0) {
                return "place<" + r.nextInt(9);
            }
            if (k == 5) {
                return "not " + (r.nextBoolean() ? "(" + condition(depth + 2) + ")" : "feast");
            }
            if (k == 6) {
                return "(" + condition(depth + 1) + ")";
            }
            return condition(depth) + (k == 7 ? " and " : " or ") + condition(depth);
        }

        String codeText() {
            StringBuilder s = new StringBuilder();
            int n = r.nextInt(14);
            for (int i = 0; i < n; i++) {
                String c = (r.nextInt(3) == 0 ? "always" : "never") + blank() + r.nextInt(r.nextInt(3) + 2)
                        + (r.nextInt(3) == 0 ? "" : " if " + condition(0));
                if (s.length() + c.length() < 380) {
                    s.append(s.length() == 0 ? "" : ";").append(c);
                }
            }
            return s.toString();
        }

        String two() {
            return "" + r.nextInt(r.nextInt(3) + 2) + r.nextInt(r.nextInt(7) + 2);
        }

        String line() {
            int people = y.s.people.size() + 2;
            switch (r.nextInt(9)) {
                case 0:
                    return "watch " + r.nextInt(103);
                case 1:
                    return "term " + (r.nextInt(6) + (r.nextInt(9) == 0 ? 0 : 1));
                case 2:
                    return "harm " + r.nextInt(8) + blank() + r.nextInt(100);
                case 3:
                    return "wed " + r.nextInt(people) + blank() + r.nextInt(people);
                case 4:
                    return "seen " + r.nextInt(people) + blank() + two();
                default:
                    StringBuilder s = new StringBuilder("citizen fear " + r.nextInt(101) + " does");
                    int n = r.nextInt(6) + (r.nextInt(30) == 0 ? 2 : 1);
                    for (int i = 0; i < n; i++) {
                        s.append(blank()).append(two());
                    }
                    if (r.nextInt(3) > 0 && y.s.clauses() > 0) {
                        s.append(" knows ").append(r.nextInt(y.s.clauses()));
                        for (int i = r.nextInt(4); i > 0; i--) {
                            s.append(' ').append(r.nextInt(y.s.clauses() + (r.nextInt(30) == 0 ? 1 : 0)));
                        }
                    }
                    return s.toString();
            }
        }

        String republicText() {
            StringBuilder s = new StringBuilder();
            int n = r.nextInt(12) == 0 ? 16 : 1 + r.nextInt(5);
            for (int i = 0; i < n; i++) {
                String l = n == 16 ? "watch 7" : line();
                if (s.length() + l.length() < 380) {
                    s.append(s.length() == 0 ? "" : ";").append(l);
                }
            }
            return s.toString();
        }

        String spoilt(String text) {
            if (r.nextInt(4) > 0 || text.isEmpty()) {
                return text;
            }
            int at = r.nextInt(text.length());
            switch (r.nextInt(4)) {
                case 0:
                    return text.substring(0, at);
                case 1:
                    return text.substring(0, at) + text.substring(at + 1);
                case 2:
                    return text.substring(0, at) + " ;()<>+1a7Z\u00e9\0".charAt(r.nextInt(13)) + text.substring(at + 1);
                default:
                    return text.substring(0, at) + " " + text.substring(at);
            }
        }

        String rows() {
            StringBuilder s = new StringBuilder();
            for (int i = r.nextInt(6); i > 0; i--) {
                s.append((char) r.nextInt(Math.max(1, y.s.people.size() + (r.nextInt(20) == 0 ? 1 : 0))));
                s.append((char) (r.nextInt(12) == 0 ? r.nextInt(66) : r.nextInt(24))).append((char) (r.nextInt(60) == 0 ? 2 : r.nextInt(2)));
            }
            return r.nextInt(30) == 0 ? s + "\1" : s.toString();
        }

        int someone() {
            return within(0, Math.max(0, y.s.people.size() - 1));
        }

        /** Mostly so; else just beyond, or far. */
        int within(int low, int high) {
            switch (r.nextInt(100)) {
                case 0:
                    return Integer.MIN_VALUE;
                case 1:
                    return Integer.MAX_VALUE;
                case 2:
                    return low - 1;
                case 3:
                    return high + 1;
                default:
                    return low + r.nextInt(high - low + 1);
            }
        }

        boolean step() {
            int c = someone();
            int o = someone();
            int k = within(0, Math.max(0, y.s.clauses() - 1));
            boolean f = r.nextBoolean();
            switch (r.nextInt(49)) {
                case 0: {
                    if (r.nextInt(4) > 0 && y.s.code != null) {
                        return true;
                    }
                    return feed(spoilt(codeText())) && same("code", x::code, y::code) && fault();
                }
                case 1:
                case 2:
                    if (r.nextInt(3) > 0 && y.s.texts > 3) {
                        return true;
                    }
                    return feed(spoilt(republicText())) && same("republic", x::republic, y::republic) && fault();
                case 3: {
                    int w = within(0, 4);
                    return same("clause " + k + " " + w, () -> x.clause(k, w), () -> y.clause(k, w));
                }
                case 4: {
                    int w = within(0, 8);
                    return same("citizen " + c + " " + w, () -> x.citizen(c, w), () -> y.citizen(c, w));
                }
                case 5:
                    return same("seen " + c, () -> x.seen(c), () -> Plain.longBits(y.one(c).seen));
                case 6: {
                    int h = within(0, 5);
                    return same("habit " + c + " " + h, () -> x.habit(c, h), () -> {
                        Person p = y.one(c);
                        return h < 0 || h >= p.habit.size() ? -1 : p.habit.get(h);
                    });
                }
                case 7: {
                    int m = r.nextBoolean() ? within(0, 63) : r.nextInt(24);
                    int w = within(0, 3);
                    return same("matter " + m + " " + c + " " + w, () -> x.matter(m, c, w), () -> y.matter(m, c, w));
                }
                case 8:
                    return same("tell " + c + " " + k, () -> x.tell(c, k), () -> y.tell(c, k));
                case 9:
                    return r.nextBoolean() || same("die " + c, () -> x.die(c), () -> y.die(c));
                case 10:
                    return same("wed " + c + " " + o, () -> x.wed(c, o), () -> y.wed(c, o));
                case 11:
                    return r.nextBoolean() || same("baby " + c, () -> x.baby(c), () -> y.baby(c));
                case 12:
                    return same("release " + c, () -> x.release(c), () -> y.release(c));
                case 13:
                case 14: {
                    int n = r.nextInt(4) > 0 ? 1 + r.nextInt(4) : within(1, 50);
                    return same("days " + n, () -> x.days(n), () -> y.days(n));
                }
                case 15:
                    return same("nobody", x::nobody, y::nobody);
                case 16:
                    return same("relief", x::relief, y::relief);
                case 17: {
                    int w = within(0, 2);
                    return feed(rows()) && same("read " + w, () -> x.read(w), () -> y.read(w));
                }
                case 18:
                    return feed(rows()) && same("next " + c, () -> x.next(c), () -> y.next(c));
                case 19:
                    return same("cover", x::cover, y::cover);
                case 20:
                    return same("dies " + c, () -> x.dies(c), () -> y.dies(c));
                case 21: {
                    int n = within(1, 10);
                    return same("heirs " + n, () -> x.heirs(n), () -> y.heirs(n));
                }
                default:
                    return laterStep(c, o, f);
            }
        }

        boolean laterStep(int c, int o, boolean f) {
            int n = within(1, r.nextBoolean() ? 60 : 9);
            int z = within(0, r.nextBoolean() ? 40 : 9);
            int e = within(0, 7);
            switch (r.nextInt(24)) {
                case 0:
                    return same("risk " + c + " " + n, () -> x.risk(c, n), () -> y.risk(c, n));
                case 1:
                    return same("safe " + c + " " + e, () -> x.safe(c, e), () -> y.safe(c, e));
                case 2:
                    return same("better " + c + " " + n, () -> x.better(c, n), () -> y.better(c, n));
                case 3:
                    return same("telling " + n + " " + f, () -> x.telling(n, f), () -> y.telling(n, f));
                case 4:
                    return same("deduced " + c, () -> x.deduced(c), () -> y.deduced(c));
                case 5:
                    return same("hush " + e, () -> x.hush(e), () -> y.hush(e));
                case 6:
                    return same("usual " + e, () -> x.usual(e), () -> y.usual(e));
                case 7:
                    return same("feared " + f, () -> x.feared(f), () -> y.feared(f));
                case 8: {
                    int rounds = r.nextInt(3) > 0 ? r.nextInt(3) : within(0, 30);
                    return same("custom " + rounds, () -> x.custom(rounds), () -> y.custom(rounds));
                }
                case 9:
                    return same("settles", x::settles, y::settles);
                case 10:
                    return same("provoked " + c + " " + f, () -> x.provoked(c, f), () -> y.provoked(c, f));
                case 11:
                    return same("crowd " + e + " " + n, () -> x.crowd(e, n), () -> y.crowd(e, n));
                case 12:
                    return same("witnesses " + c + " " + o + " " + n, () -> x.witnesses(c, o, n), () -> y.witnesses(c, o, n));
                case 13: {
                    int w = within(0, 3);
                    return same("trial " + z + " " + w, () -> x.trial(z, w), () -> y.trial(z, w));
                }
                case 14:
                    return same("span " + z + " " + f, () -> x.span(z, f), () -> y.span(z, f));
                case 15:
                    return same("first", x::first, y::first);
                case 16: {
                    int who = r.nextBoolean() ? -1 : c;
                    return same("led " + who, () -> x.led(who), () -> y.led(who));
                }
                case 17:
                    return same("worst", x::worst, y::worst);
                case 18: {
                    int ago = r.nextBoolean() ? within(0, 59) : r.nextInt(8);
                    int w = within(0, 3);
                    return same("log " + ago + " " + w, () -> x.log(ago, w), () -> y.log(ago, w));
                }
                case 19: {
                    int seed = r.nextInt();
                    return same("seed " + seed, () -> x.seed(seed), () -> y.seed(seed));
                }
                case 20:
                    return same("undo", x::undo, y::undo);
                case 21:
                    return r.nextInt(3) > 0 || same("back", x::back, y::back);
                case 22:
                    x.image();
                    y.image = y.s.copy();
                    calls.add("image");
                    return true;
                default:
                    return counts();
            }
        }

        boolean fault() {
            return same("fault", x::fault, () -> y.fault);
        }

        boolean counts() {
            boolean fine = true;
            for (int what = -1; what <= 14 && fine; what++) {
                int w = what;
                fine = same("count " + w, () -> x.count(w), () -> y.count(w));
            }
            return fine;
        }

        boolean all() {
            boolean fine = true;
            if (r.nextInt(8) > 0) {
                fine = feed(codeText()) && same("code", x::code, y::code) && fault();
            }
            int wanted = r.nextInt(5);
            for (int i = 0; i < 9 && y.s.people.size() < wanted && fine; i++) {
                fine = feed(republicText()) && same("republic", x::republic, y::republic) && fault();
            }
            while (fine && calls.size() < CALLS) {
                calls.add("");
                fine = step();
            }
            return fine && counts();
        }
    }

    public static void main(String[] args) {
        int from = args.length > 0 ? Integer.parseInt(args[0]) : 0;
        int runs = args.length > 1 ? Integer.parseInt(args[1]) : RUNS;
        for (int seed = from; seed < from + runs; seed++) {
            if (!new Run(seed).all()) {
                System.out.println("run " + seed + " is wrong");
                System.exit(1);
            }
        }
        System.out.println(runs + " random runs are as the second class has them");
    }
}
