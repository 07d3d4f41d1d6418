import java.util.ArrayDeque;
import java.util.ArrayList;
import java.util.Arrays;
import java.util.HashMap;
import java.util.HashSet;
import java.util.List;
import java.util.Map;
import java.util.NoSuchElementException;
import java.util.Random;
import java.util.Set;
import java.util.TreeSet;

/** Drawn runs of calls, each answer held against a model that is written as plainly as the document's words go. */
public final class ModelTest {
    private static final Set<String> KEYWORDS = new HashSet<>(Arrays.asList(("place path person in wakes thing worth of smoke binds"
            + " minute walk give vow plain bench slow mute not and or").split(" ")));
    private static final List<String> KINDS = Arrays.asList("plain", "bench", "slow", "mute");

    private static final class Fault extends RuntimeException {
        private static final long serialVersionUID = 1L;
        final int number;

        Fault(int kind, int at) {
            this.number = kind + 16 * at;
        }
    }

    private interface E {
        int at(Map<String, Integer> facts);
    }

    private static final class Token {
        String text;
        int at;
        boolean none;

        boolean isWord() {
            return !none && !text.isEmpty() && Character.isLowerCase(text.charAt(0));
        }

        boolean isName() {
            return isWord() && !KEYWORDS.contains(text);
        }

        boolean isNumber() {
            return !none && !text.isEmpty() && Character.isDigit(text.charAt(0));
        }
    }

    private static List<Token> tokens(String text) {
        List<Token> all = new ArrayList<>();
        int i = 0;
        while (i <= text.length()) {
            while (i < text.length() && " \n".indexOf(text.charAt(i)) >= 0) {
                i++;
            }
            Token t = new Token();
            t.at = i;
            int j = i;
            while (j < text.length() && text.charAt(j) >= 'a' && text.charAt(j) <= 'z') {
                j++;
            }
            if (j > i) {
                t.none = j - i > 8;
            } else {
                while (j < text.length() && text.charAt(j) >= '0' && text.charAt(j) <= '9') {
                    j++;
                }
                if (j > i) {
                    t.none = j - i > 4;
                } else if (i < text.length()) {
                    j = i + 1;
                    t.none = "()<=+-*;".indexOf(text.charAt(i)) < 0;
                }
            }
            t.text = text.substring(i, j);
            all.add(t);
            if (i == text.length()) {
                return all;
            }
            i = j;
        }
        return all;
    }

    private static final class Person {
        String name;
        int kind;
        int house;
        int wakes;
    }

    private static final class Thing {
        String name;
        int worth;
        int of;
    }

    private static final class Land {
        final List<String> places = new ArrayList<>();
        final Set<List<Integer>> paths = new HashSet<>();
        final List<Person> persons = new ArrayList<>();
        final List<Thing> things = new ArrayList<>();
        Integer smoke;
        E binds;

        int smoke() {
            return smoke == null ? 30 : smoke;
        }

        boolean path(int a, int b) {
            return paths.contains(Arrays.asList(Math.min(a, b), Math.max(a, b)));
        }

        int person(String name) {
            for (int i = 0; i < persons.size(); i++) {
                if (persons.get(i).name.equals(name)) {
                    return i;
                }
            }
            return -1;
        }

        int thing(String name) {
            for (int i = 0; i < things.size(); i++) {
                if (things.get(i).name.equals(name)) {
                    return i;
                }
            }
            return -1;
        }

        int far(int a, int b) {
            Map<Integer, Integer> at = new HashMap<>();
            ArrayDeque<Integer> queue = new ArrayDeque<>();
            at.put(a, 0);
            queue.add(a);
            while (!queue.isEmpty()) {
                int p = queue.poll();
                for (int q = 0; q < places.size(); q++) {
                    if (path(p, q) && !at.containsKey(q)) {
                        at.put(q, at.get(p) + 1);
                        queue.add(q);
                    }
                }
            }
            return at.getOrDefault(b, -1);
        }
    }

    /** Reads by descent. */
    private static final class Reader {
        final List<Token> all;
        int at = 0;

        Reader(String text) {
            all = tokens(text);
        }

        Token now() {
            return all.get(at);
        }

        boolean ended() {
            return at == all.size() - 1;
        }

        Fault fault(int kind) {
            return new Fault(kind, now().at);
        }

        boolean is(String text) {
            return !now().none && !ended() && now().text.equals(text);
        }

        void take(String text) {
            if (!is(text)) {
                throw fault(1);
            }
            at++;
        }

        String name() {
            if (!now().isName()) {
                throw fault(1);
            }
            return now().text;
        }

        String newName(Land land) {
            String name = name();
            if (land.places.contains(name) || land.person(name) >= 0 || land.thing(name) >= 0) {
                throw fault(3);
            }
            at++;
            return name;
        }

        int known(int index) {
            if (index < 0) {
                throw fault(2);
            }
            return index;
        }

        int number(int least, int most) {
            if (!now().isNumber()) {
                throw fault(1);
            }
            int n = Integer.parseInt(now().text);
            if (n < least || n > most) {
                throw fault(4);
            }
            at++;
            return n;
        }

        Land land() {
            Land land = new Land();
            while (!ended()) {
                line(land);
                take(";");
            }
            return land;
        }

        void line(Land land) {
            if (is("place")) {
                limit(land.places.size(), 7);
                land.places.add(newName(land));
            } else if (is("path")) {
                limit(land.paths.size(), 10);
                int a = known(land.places.indexOf(name()));
                at++;
                int b = known(land.places.indexOf(name()));
                if (a == b || land.path(a, b)) {
                    throw fault(3);
                }
                at++;
                land.paths.add(Arrays.asList(Math.min(a, b), Math.max(a, b)));
            } else if (is("person")) {
                limit(land.persons.size(), 5);
                Person p = new Person();
                p.name = newName(land);
                if (now().none || !KINDS.contains(now().text)) {
                    throw fault(1);
                }
                p.kind = KINDS.indexOf(now().text);
                at++;
                take("in");
                p.house = known(land.places.indexOf(name()));
                at++;
                take("wakes");
                p.wakes = number(0, 30);
                land.persons.add(p);
            } else if (is("thing")) {
                limit(land.things.size(), 6);
                Thing t = new Thing();
                t.name = newName(land);
                take("worth");
                t.worth = number(0, 30);
                take("of");
                t.of = known(land.person(name()));
                at++;
                land.things.add(t);
            } else if (is("smoke")) {
                if (land.smoke != null) {
                    throw fault(3);
                }
                at++;
                land.smoke = number(1, 60);
            } else if (is("binds")) {
                if (land.binds != null) {
                    throw fault(3);
                }
                at++;
                land.binds = e(0);
            } else {
                throw fault(1);
            }
        }

        void limit(int size, int most) {
            if (size == most) {
                throw fault(5);
            }
            at++;
        }

        E e(int depth) {
            E left = test(depth);
            while (is("and") || is("or")) {
                boolean and = is("and");
                at++;
                E one = left;
                E other = test(depth);
                left = f -> (and ? one.at(f) != 0 & other.at(f) != 0 : one.at(f) != 0 | other.at(f) != 0) ? 1 : 0;
            }
            return left;
        }

        E test(int depth) {
            E one = sum(depth);
            if (is("<") || is("=")) {
                boolean less = is("<");
                at++;
                E other = sum(depth);
                return f -> (less ? one.at(f) < other.at(f) : one.at(f) == other.at(f)) ? 1 : 0;
            }
            return one;
        }

        E sum(int depth) {
            E left = product(depth);
            while (is("+") || is("-")) {
                int sign = is("+") ? 1 : -1;
                at++;
                E one = left;
                E other = product(depth);
                left = f -> one.at(f) + sign * other.at(f);
            }
            return left;
        }

        E product(int depth) {
            E left = part(depth);
            while (is("*")) {
                at++;
                E one = left;
                E other = part(depth);
                left = f -> one.at(f) * other.at(f);
            }
            return left;
        }

        E part(int depth) {
            boolean fact = is("clock") || is("price") || is("crowd") || is("judge");
            if (!fact && !is("not") && !is("(") && !now().isNumber()) {
                throw fault(1);
            }
            if (depth >= 5) {
                throw fault(5);
            }
            String text = now().text;
            at++;
            if (fact) {
                return f -> f.get(text);
            }
            if (text.equals("not")) {
                E inner = part(depth + 1);
                return f -> inner.at(f) == 0 ? 1 : 0;
            }
            if (text.equals("(")) {
                E inner = e(depth + 1);
                take(")");
                return inner;
            }
            return f -> Integer.parseInt(text);
        }

        List<int[]> morning(Land land) {
            List<int[]> lines = new ArrayList<>();
            while (!ended()) {
                int deed = Arrays.asList("minute", "walk", "give", "vow").indexOf(now().none ? "" : now().text);
                if (deed < 0) {
                    throw fault(1);
                }
                limit(lines.size(), 40);
                int one = 0;
                int other = 0;
                if (deed > 0) {
                    one = known(deed == 2 ? land.thing(name()) : land.person(name()));
                    at++;
                    other = known(deed == 1 ? land.places.indexOf(name()) : land.person(name()));
                    if (deed == 3 && one == other) {
                        throw fault(3);
                    }
                    at++;
                }
                lines.add(new int[] {deed, one, other});
                take(";");
            }
            return lines;
        }
    }

    /** How all is. */
    private static final class World {
        final Land land;
        int morning;
        int minute;
        int[] where;
        Set<Integer> acted = new TreeSet<>();
        Set<Integer> slowWalked = new TreeSet<>();
        int[] with;
        int[] right;
        Set<Set<Integer>> vows = new HashSet<>();
        Set<Set<Integer>> rightVows = new HashSet<>();
        List<Set<Integer>> heard = new ArrayList<>();

        World(Land land) {
            this.land = land;
            where = land.persons.stream().mapToInt(p -> p.house).toArray();
            with = land.things.stream().mapToInt(t -> t.of).toArray();
            right = with.clone();
            for (int i = 0; i < where.length; i++) {
                heard.add(new TreeSet<>(Arrays.asList(i)));
            }
        }

        World copy() {
            World w = new World(land);
            w.morning = morning;
            w.minute = minute;
            w.where = where.clone();
            w.acted.addAll(acted);
            w.slowWalked.addAll(slowWalked);
            w.with = with.clone();
            w.right = right.clone();
            w.vows.addAll(vows);
            w.rightVows.addAll(rightVows);
            for (int i = 0; i < where.length; i++) {
                w.heard.set(i, new TreeSet<>(heard.get(i)));
            }
            return w;
        }

        boolean awake(int p) {
            return minute >= land.persons.get(p).wakes;
        }

        boolean ready(int p) {
            return awake(p) && !acted.contains(p);
        }

        boolean isPerson(int p) {
            return p >= 0 && p < where.length;
        }

        boolean isThing(int t) {
            return t >= 0 && t < with.length;
        }

        boolean isPlace(int p) {
            return p >= 0 && p < land.places.size();
        }

        boolean binds(int a, int b, int price, int clock) {
            if (land.binds == null) {
                return false;
            }
            int crowd = 0;
            int judge = 0;
            for (int p = 0; p < where.length; p++) {
                if (p != a && p != b && where[p] == where[a] && clock >= land.persons.get(p).wakes) {
                    crowd++;
                    judge += land.persons.get(p).kind == 1 ? 1 : 0;
                }
            }
            return land.binds.at(Map.of("clock", clock, "price", price, "crowd", crowd, "judge", judge)) != 0;
        }

        int walk(int p, int place) {
            if (!isPerson(p) || !isPlace(place) || !ready(p) || !land.path(where[p], place)) {
                return -1;
            }
            where[p] = place;
            acted.add(p);
            if (land.persons.get(p).kind == 2) {
                slowWalked.add(p);
            }
            return 0;
        }

        int give(int t, int p) {
            if (!isThing(t) || !isPerson(p) || with[t] == p || !ready(with[t]) || !awake(p) || where[with[t]] != where[p]) {
                return -1;
            }
            boolean binds = binds(with[t], p, land.things.get(t).worth, minute);
            acted.add(with[t]);
            with[t] = p;
            if (binds) {
                right[t] = p;
            }
            return binds ? 1 : 0;
        }

        int vow(int a, int b) {
            if (!isPerson(a) || !isPerson(b) || a == b || !ready(a) || !ready(b) || where[a] != where[b]
                    || land.persons.get(a).kind == 3 || land.persons.get(b).kind == 3 || vows.contains(Set.of(a, b))) {
                return -1;
            }
            boolean binds = binds(a, b, 0, minute);
            acted.add(a);
            acted.add(b);
            vows.add(Set.of(a, b));
            if (binds) {
                rightVows.add(Set.of(a, b));
            }
            return binds ? 1 : 0;
        }

        boolean minute() {
            List<Set<Integer>> after = new ArrayList<>();
            for (int p = 0; p < where.length; p++) {
                Set<Integer> all = new TreeSet<>(heard.get(p));
                for (int q = 0; q < where.length; q++) {
                    if (awake(p) && awake(q) && where[p] == where[q]) {
                        all.addAll(heard.get(q));
                    }
                }
                after.add(all);
            }
            heard = after;
            acted = slowWalked;
            slowWalked = new TreeSet<>();
            minute++;
            if (minute != land.smoke()) {
                return false;
            }
            with = right.clone();
            vows = new HashSet<>(rightVows);
            where = land.persons.stream().mapToInt(p -> p.house).toArray();
            acted.clear();
            minute = 0;
            morning++;
            return true;
        }

        int play(int[] line) {
            switch (line[0]) {
                case 1: return walk(line[1], line[2]);
                case 2: return give(line[1], line[2]);
                case 3: return vow(line[1], line[2]);
                default:
                    minute();
                    return 0;
            }
        }

        /** By waiting, minute after minute, till one is READY. */
        int unready(int p) {
            int wakes = Math.max(0, land.persons.get(p).wakes - minute);
            int rests = slowWalked.contains(p) ? 2 : acted.contains(p) ? 1 : 0;
            return Math.max(wakes, rests);
        }

        int soon(int p, int place) {
            int far = land.far(where[p], place);
            if (far <= 0) {
                return far;
            }
            return unready(p) + far * (land.persons.get(p).kind == 2 ? 2 : 1);
        }

        boolean can(int p, int place, int minutes) {
            int soon = soon(p, place);
            return soon >= 0 && soon <= minutes;
        }

        int allCan(List<Integer> persons, int place) {
            for (int m = 0; m <= 99; m++) {
                int minutes = m;
                if (persons.stream().allMatch(p -> can(p, place, minutes))) {
                    return m;
                }
            }
            return -1;
        }

        int back() {
            int bits = 0;
            for (int t = 0; t < with.length; t++) {
                bits |= with[t] != right[t] ? 1 << t : 0;
            }
            return bits;
        }

        boolean heardAll() {
            return heard.stream().allMatch(h -> h.size() == where.length);
        }

        int awakeBits() {
            int bits = 0;
            for (int p = 0; p < where.length; p++) {
                bits |= awake(p) ? 1 << p : 0;
            }
            return bits;
        }

        int at(int place) {
            int bits = 0;
            for (int p = 0; p < where.length; p++) {
                bits |= where[p] == place ? 1 << p : 0;
            }
            return bits;
        }
    }

    private static final class Model {
        String tape = "";
        Land land = new Land();
        World now = new World(land);
        List<int[]> script = new ArrayList<>();
        List<int[]> seen = new ArrayList<>();
        ArrayDeque<World> past = new ArrayDeque<>();
        World[] marks = new World[4];
        List<List<int[]>> marksSeen = new ArrayList<>(Arrays.asList(null, null, null, null));

        int feed(long... parts) {
            for (long part : parts) {
                for (int i = 7; i >= 0; i--) {
                    int sign = (int) (part >> 8 * i & 0xFF);
                    if ((sign == 10 || sign >= 32 && sign < 127) && tape.length() < 1000) {
                        tape += (char) sign;
                    }
                }
            }
            return tape.length();
        }

        int land() {
            String text = tape;
            tape = "";
            try {
                land = new Reader(text).land();
            } catch (Fault f) {
                return f.number;
            }
            now = new World(land);
            script = new ArrayList<>();
            seen = new ArrayList<>();
            past.clear();
            Arrays.fill(marks, null);
            return 0;
        }

        int morning() {
            String text = tape;
            tape = "";
            try {
                script = new Reader(text).morning(land);
            } catch (Fault f) {
                return f.number;
            }
            return 0;
        }

        int done(int came, World ahead) {
            if (came >= 0) {
                past.addLast(ahead);
                if (past.size() > 16) {
                    past.removeFirst();
                }
            }
            return came;
        }

        int act(int deed, int a, int b) {
            World ahead = now.copy();
            if (deed == 0) {
                return done(now.minute() ? 1 : 0, ahead);
            }
            return done(now.play(new int[] {deed, a, b}), ahead);
        }

        boolean undo() {
            if (past.isEmpty()) {
                return false;
            }
            now = past.removeLast();
            return true;
        }

        boolean mark(int mark, boolean back) {
            if (mark < 0 || mark > 3 || back && marks[mark] == null) {
                return false;
            }
            if (back) {
                now = marks[mark].copy();
                seen = new ArrayList<>(marksSeen.get(mark));
                past.clear();
            } else {
                marks[mark] = now.copy();
                marksSeen.set(mark, new ArrayList<>(seen));
            }
            return true;
        }

        int judged(int what) {
            World w = new World(land);
            int cannot = -1;
            int bond = -1;
            for (int i = script.size() - 1; i >= 0; i--) {
                w = new World(land);
                int came = 0;
                for (int j = 0; j <= i; j++) {
                    came = w.play(script.get(j));
                }
                cannot = came < 0 ? i : cannot;
                bond = came > 0 ? i : bond;
            }
            w = new World(land);
            for (int[] line : script) {
                w.play(line);
            }
            int moved = 0;
            for (int t = 0; t < w.with.length; t++) {
                moved += w.with[t] != land.things.get(t).of ? 1 : 0;
            }
            return what == 0 ? cannot : what == 1 ? bond : what == 2 ? moved : -2;
        }

        int all(int what) {
            List<Integer> everyone = new ArrayList<>();
            for (int p = 0; p < now.where.length; p++) {
                everyone.add(p);
            }
            if (everyone.isEmpty() || what < 0 || what > 1) {
                return -1;
            }
            for (int m = 0; m <= 99; m++) {
                for (int place = 0; place < land.places.size(); place++) {
                    if (now.allCan(everyone, place) == m) {
                        return what == 0 ? place : m;
                    }
                }
            }
            return -1;
        }

        int meet(int a, int b) {
            if (!now.isPerson(a) || !now.isPerson(b) || a == b) {
                return -1;
            }
            int best = -1;
            for (int place = 0; place < land.places.size(); place++) {
                int m = now.allCan(Arrays.asList(a, b), place);
                best = m >= 0 && (best < 0 || m < best) ? m : best;
            }
            return best;
        }

        int tour(int p) {
            if (!now.isPerson(p)) {
                return -1;
            }
            Set<Integer> left = new TreeSet<>();
            for (int q = 0; q < land.places.size(); q++) {
                if (land.far(now.where[p], q) > 0) {
                    left.add(q);
                }
            }
            if (left.isEmpty()) {
                return 0;
            }
            return now.unready(p) + orders(now.where[p], left) * (land.persons.get(p).kind == 2 ? 2 : 1);
        }

        /** The least over all orders in which those left can be gone to. */
        int orders(int from, Set<Integer> left) {
            if (left.isEmpty()) {
                return 0;
            }
            int least = 9999;
            for (int q : new ArrayList<>(left)) {
                Set<Integer> rest = new TreeSet<>(left);
                rest.remove(q);
                least = Math.min(least, land.far(from, q) + orders(q, rest));
            }
            return least;
        }

        int when(int t, int p) {
            if (!now.isThing(t) || !now.isPerson(p) || now.with[t] == p) {
                return -1;
            }
            for (int m = now.minute; m < land.smoke(); m++) {
                if (now.binds(now.with[t], p, land.things.get(t).worth, m)) {
                    return m;
                }
            }
            return -1;
        }

        int vows(int p, boolean right) {
            if (!now.isPerson(p)) {
                return -1;
            }
            int bits = 0;
            for (Set<Integer> vow : right ? now.rightVows : now.vows) {
                if (vow.contains(p)) {
                    for (int q : vow) {
                        bits |= q != p ? 1 << q : 0;
                    }
                }
            }
            return bits;
        }

        int sees(int p) {
            if (!now.isPerson(p)) {
                return -1;
            }
            int bits = 0;
            for (int q = 0; q < now.where.length; q++) {
                if (q != p && (now.where[q] == now.where[p] || land.path(now.where[p], now.where[q]))) {
                    bits |= 1 << q;
                }
            }
            return bits;
        }

        int news() {
            World w = now.copy();
            for (int m = 0; m <= 99; m++) {
                if (w.heardAll()) {
                    return m;
                }
                w.minute();
            }
            return -1;
        }

        int alone() {
            int bits = 0;
            for (int p = 0; p < now.where.length; p++) {
                if (now.awake(p) && (now.at(now.where[p]) & now.awakeBits()) == 1 << p) {
                    bits |= 1 << p;
                }
            }
            return bits;
        }

        int reach(int place) {
            if (!now.isPlace(place)) {
                return -1;
            }
            int bits = 0;
            for (int q = 0; q < land.places.size(); q++) {
                bits |= land.far(place, q) >= 0 ? 1 << q : 0;
            }
            return bits;
        }

        int cuts() {
            int bits = 0;
            for (int c = 0; c < land.places.size(); c++) {
                Land without = new Land();
                without.places.addAll(land.places);
                for (List<Integer> path : land.paths) {
                    if (!path.contains(c)) {
                        without.paths.add(path);
                    }
                }
                for (int a = 0; a < land.places.size(); a++) {
                    for (int b = 0; b < land.places.size(); b++) {
                        if (a != c && b != c && land.far(a, c) >= 0 && land.far(b, c) >= 0 && without.far(a, b) < 0) {
                            bits |= 1 << c;
                        }
                    }
                }
            }
            return bits;
        }

        int hub() {
            int best = -1;
            int least = 99;
            for (int p = 0; p < land.places.size(); p++) {
                int most = 0;
                for (int q = 0; q < land.places.size(); q++) {
                    most = Math.max(most, land.far(p, q));
                }
                if (most < least) {
                    least = most;
                    best = p;
                }
            }
            return best;
        }

        int wide() {
            for (int far = 7; far > 0; far--) {
                for (int p = 0; p < land.places.size(); p++) {
                    for (int q = p + 1; q < land.places.size(); q++) {
                        if (land.far(p, q) == far) {
                            return 8 * p + q;
                        }
                    }
                }
            }
            return -1;
        }

        int who() {
            int bits = 0;
            for (int p = 0; p < now.where.length; p++) {
                int person = p;
                if (seen.stream().allMatch(s -> now.can(person, s[0], s[1]) == (s[2] == 1))) {
                    bits |= 1 << p;
                }
            }
            return bits;
        }

        int ask() {
            int who = who();
            int all = Integer.bitCount(who);
            int[][] soon = new int[5][7];
            for (int p = 0; p < now.where.length; p++) {
                for (int q = 0; q < land.places.size(); q++) {
                    soon[p][q] = now.soon(p, q);
                }
            }
            for (int greater = 0; greater < all; greater++) {
                for (int m = 0; m <= 99; m++) {
                    for (int q = 0; q < land.places.size(); q++) {
                        int can = 0;
                        for (int p = 0; p < now.where.length; p++) {
                            can += (who >> p & 1) == 1 && soon[p][q] >= 0 && soon[p][q] <= m ? 1 : 0;
                        }
                        if (Math.max(can, all - can) == greater) {
                            return 8 * m + q;
                        }
                    }
                }
            }
            return -1;
        }

        int has(int p, boolean right) {
            if (!now.isPerson(p)) {
                return -1;
            }
            int worth = 0;
            for (int t = 0; t < now.with.length; t++) {
                worth += (right ? now.right : now.with)[t] == p ? land.things.get(t).worth : 0;
            }
            return worth;
        }

        int rich(boolean right) {
            int best = -1;
            for (int p = now.where.length - 1; p >= 0; p--) {
                best = best < 0 || has(p, right) >= has(best, right) ? p : best;
            }
            return best;
        }

        int chance(int minutes, int odds) {
            if (minutes < 1 || minutes > 6 || odds < 0 || odds > 10) {
                return -1;
            }
            int millionths = 1000000;
            for (int m = now.minute; m < now.minute + minutes && m < land.smoke(); m++) {
                millionths = millionths / 10 * (10 - odds);
            }
            return millionths;
        }

        int mornings(int seed, int minutes, int what) {
            if (seed < 0 || seed > 9999 || minutes < 1 || minutes > 99 || what < 0 || what > 2) {
                return -1;
            }
            long[] g = {seed};
            World w = now.copy();
            int n = 0;
            for (int m = 0; m < minutes; m++) {
                if (w.where.length > 0) {
                    int p = draw(g, w.where.length);
                    int q = draw(g, land.places.size());
                    int deed = draw(g, 5);
                    if (deed < 2) {
                        w.walk(p, q);
                    } else if (deed == 2) {
                        n += w.with.length > 0 && w.give(draw(g, w.with.length), p) >= 0 ? 1 : 0;
                    } else if (deed == 3) {
                        n += w.vow(p, draw(g, w.where.length)) >= 0 ? 1 : 0;
                    }
                }
                w.minute();
            }
            return what == 0 ? n : what == 1 ? w.back() : w.heard.stream().mapToInt(Set::size).sum();
        }

        int draw(long[] g, int m) {
            g[0] = g[0] * 1103515245L + 12345 & 0x7FFFFFFFL;
            return (int) ((g[0] >> 16) % m);
        }

        int bits(Set<Integer> set) {
            int bits = 0;
            for (int i : set) {
                bits |= 1 << i;
            }
            return bits;
        }

        int place(int place, int what) {
            if (!now.isPlace(place)) {
                return -1;
            }
            int bits = 0;
            for (int q = 0; q < land.places.size(); q++) {
                bits |= land.path(place, q) ? 1 << q : 0;
            }
            return what == 0 ? bits : what == 1 ? now.at(place) : what == 2 ? now.at(place) & now.awakeBits() : -1;
        }

        int person(int p, int what) {
            if (!now.isPerson(p) || what < 0 || what > 5) {
                return -1;
            }
            int things = 0;
            for (int t = 0; t < now.with.length; t++) {
                things |= now.with[t] == p ? 1 << t : 0;
            }
            return new int[] {land.persons.get(p).kind, land.persons.get(p).house, now.where[p], now.awake(p) ? 1 : 0,
                    now.ready(p) ? 1 : 0, things}[what];
        }

        int thing(int t, int what) {
            if (!now.isThing(t) || what < 0 || what > 2) {
                return -1;
            }
            return new int[] {land.things.get(t).worth, now.with[t], now.right[t]}[what];
        }

        int count(int what) {
            int[] all = {land.places.size(), land.paths.size(), land.persons.size(), land.things.size(), land.smoke(),
                    now.morning, now.minute, now.awakeBits(), now.vows.size(), now.rightVows.size(), script.size(),
                    seen.size(), past.size(), tape.length()};
            return what < 0 || what >= all.length ? -1 : all[what];
        }

        int could(int t) {
            if (!now.isThing(t)) {
                return -1;
            }
            int bits = 0;
            for (int p = 0; p < now.where.length; p++) {
                bits |= now.copy().give(t, p) >= 0 ? 1 << p : 0;
            }
            return bits;
        }

        boolean see(int place, int minutes, boolean can) {
            if (!now.isPlace(place) || minutes < 0 || minutes > 99 || seen.size() == 8) {
                return false;
            }
            seen.add(new int[] {place, minutes, can ? 1 : 0});
            return true;
        }
    }

    private static final Random RANDOM = new Random(20261118);
    private static int wrong = 0;
    private static long calls = 0;
    private static final Map<String, Integer> MET = new HashMap<>();

    private static int below(int n) {
        return RANDOM.nextInt(n);
    }

    private static String name(String prefix, int n) {
        return prefix + (char) ('a' + below(n));
    }

    private static String expression(int depth) {
        StringBuilder s = new StringBuilder(part(depth));
        String[] ops = {"+", "-", "*", "<", "=", "and", "or"};
        for (int i = below(4); i > 0; i--) {
            s.append(' ').append(ops[below(7)]).append(' ').append(part(depth));
        }
        return s.toString();
    }

    private static String part(int depth) {
        switch (below(depth > 5 ? 3 : 7)) {
            case 0: return "" + below(below(9) == 0 ? 12000 : 6);
            case 1: case 2: case 3: return new String[] {"clock", "price", "crowd", "judge"}[below(4)];
            case 4: return "not " + part(depth + 1);
            default: return "( " + expression(depth + 1) + " )";
        }
    }

    private static String landText() {
        StringBuilder s = new StringBuilder();
        int places = 1 + below(below(2) == 0 ? 3 : 7);
        for (int i = 0; i < places; i++) {
            s.append("place p").append((char) ('a' + i)).append(" ; ");
        }
        int wanted = below(14);
        Set<String> told = new HashSet<>();
        for (int i = 0; i < wanted; i++) {
            int a = below(places);
            int b = below(places);
            if (below(60) == 0 || a != b && told.add(Math.min(a, b) + " " + Math.max(a, b)) && told.size() <= 10) {
                s.append("path p").append((char) ('a' + a)).append(" p").append((char) ('a' + b)).append(" ; ");
            }
        }
        int persons = below(9) == 0 ? 0 : 1 + below(5);
        for (int i = 0; i < persons; i++) {
            s.append("person q").append((char) ('a' + i)).append(' ').append(KINDS.get(below(4))).append(" in ")
                    .append(name("p", places)).append(" wakes ").append(below(2) == 0 ? 0 : below(6)).append(" ; ");
        }
        int things = persons == 0 ? 0 : below(7);
        for (int i = 0; i < things; i++) {
            s.append("thing t").append((char) ('a' + i)).append(" worth ").append(below(31)).append(" of ")
                    .append(name("q", persons)).append(" ; ");
        }
        if (below(3) > 0) {
            s.append("smoke ").append(1 + below(below(2) == 0 ? 8 : 60)).append(" ; ");
        }
        if (below(4) > 0) {
            String law = expression(below(3));
            s.append("binds ").append(law).append(" ; ");
        }
        return s.toString();
    }

    private static String morningText(Land land) {
        StringBuilder s = new StringBuilder();
        int places = Math.max(1, land.places.size());
        int persons = Math.max(1, land.persons.size());
        int things = Math.max(1, land.things.size());
        for (int i = below(below(8) == 0 ? 50 : 20); i > 0; i--) {
            int other = below(persons);
            switch (below(5)) {
                case 0: s.append("walk ").append(name("q", persons)).append(' ').append(name("p", places)); break;
                case 1: s.append(land.things.isEmpty() ? "minute" : "give " + name("t", things) + " " + name("q", persons)); break;
                case 2: s.append(persons == 1 ? "minute" : "vow q" + (char) ('a' + other) + " q" + (char) ('a' + (other + 1) % persons)); break;
                default: s.append("minute");
            }
            s.append(below(9) == 0 ? ";\n" : " ; ");
        }
        return s.toString();
    }

    /** Now and then a text is spoilt: a word changed, left out, or a sign put in. */
    private static String spoilt(String text) {
        if (below(5) > 0) {
            return text;
        }
        List<String> words = new ArrayList<>(Arrays.asList(text.split(" ")));
        String[] others = {"place", "path", "person", "thing", "smoke", "binds", "in", "wakes", "worth", "of", "minute", "walk",
            "give", "vow", "plain", "slow", "not", "and", "or", "pa", "qa", "ta", "pz", "clock", "judge", "0", "7", "31", "61", "9999",
            "12345", "abcdefgh", "abcdefghi", "(", ")", "<", "=", "+", "-", "*", ";", "!", "A", "3x", "x3", "}"};
        for (int i = 1 + below(2); i > 0; i--) {
            int at = below(words.size());
            switch (below(3)) {
                case 0: words.set(at, others[below(others.length)]); break;
                case 1: words.add(at, others[below(others.length)]); break;
                default:
                    if (words.size() > 1) {
                        words.remove(at);
                    }
            }
        }
        return String.join(below(12) == 0 ? "" : " ", words);
    }

    private static void due(String call, long want, long got) {
        calls++;
        String name = call.substring(0, call.indexOf('('));
        boolean fault = name.equals("land") || name.equals("morning");
        MET.merge(name + (fault ? " fault " + want % 16 : want > 0 ? " +" : " " + want), 1, Integer::sum);
        if (want != got) {
            wrong++;
            if (wrong < 40) {
                System.out.println(call + " answered " + got + ", due is " + want);
            }
        }
    }

    private static int feed(FirstChimney x, Model m, String text) {
        int used = 0;
        for (int from = 0; from < text.length(); from += 24) {
            long[] p = new long[3];
            for (int i = 0; i < 24; i++) {
                p[i / 8] = p[i / 8] << 8 | (from + i < text.length() ? text.charAt(from + i) : below(40) == 0 ? 200 : 0);
            }
            due("feed(" + text + ")", m.feed(p), x.feed(p[0], p[1], p[2]));
            used++;
        }
        return used;
    }

    private static int index(int n) {
        return n == 0 || below(15) == 0 ? new int[] {-1, n, 9, Integer.MAX_VALUE, Integer.MIN_VALUE, 32}[below(6)] : below(n);
    }

    private static void call(FirstChimney x, Model m) {
        int p = index(m.land.persons.size());
        int q = index(m.land.persons.size());
        int l = index(m.land.places.size());
        int k = index(m.land.places.size());
        int t = index(m.land.things.size());
        boolean flag = below(2) == 0;
        String args = "(p " + p + " q " + q + " l " + l + " k " + k + " t " + t + " " + flag + ")";
        switch (below(36)) {
            case 0: case 1: case 2: {
                due("walk" + args, m.act(1, p, l) >= 0 ? 1 : 0, x.walk(p, l) ? 1 : 0);
                break;
            }
            case 3: case 4: case 5: case 6: due("give" + args, m.act(2, t, p), x.give(t, p)); break;
            case 7: case 8: case 9: due("vow" + args, m.act(3, p, q), x.vow(p, q)); break;
            case 10: case 11: case 12: due("minute" + args, m.act(0, 0, 0), x.minute() ? 1 : 0); break;
            case 13: due("undo" + args, m.undo() ? 1 : 0, x.undo() ? 1 : 0); break;
            default: ask(x, m, p, q, l, k, t, flag, args);
        }
    }

    private static void ask(FirstChimney x, Model m, int p, int q, int l, int k, int t, boolean flag, String args) {
        int what = below(9) - 1;
        World w = m.now;
        String with = args + " what " + what;
        switch (below(34)) {
            case 0: due("place" + with, m.place(l, what), x.place(l, what)); break;
            case 1: due("person" + with, m.person(p, what), x.person(p, what)); break;
            case 2: due("thing" + with, m.thing(t, what), x.thing(t, what)); break;
            case 3: due("soon" + args, w.isPerson(p) && w.isPlace(l) ? w.soon(p, l) : -1, x.soon(p, l)); break;
            case 4: due("meet" + args, m.meet(p, q), x.meet(p, q)); break;
            case 5: due("all" + with, m.all(what), x.all(what)); break;
            case 6: due("tour" + args, m.tour(p), x.tour(p)); break;
            case 7: due("intime" + args, w.isPerson(p) && w.isPlace(l) && w.soon(p, l) >= 0
                    && w.minute + w.soon(p, l) < m.land.smoke() ? 1 : 0, x.intime(p, l) ? 1 : 0); break;
            case 8: due("back" + args, w.back(), x.back()); break;
            case 9: due("could" + args, m.could(t), x.could(t)); break;
            case 10: due("would" + args, w.isThing(t) && w.isPerson(p) && w.with[t] != p
                    && w.binds(w.with[t], p, m.land.things.get(t).worth, w.minute) ? 1 : 0, x.would(t, p) ? 1 : 0); break;
            case 11: due("when" + args, m.when(t, p), x.when(t, p)); break;
            case 12: due("vows" + args, m.vows(p, flag), x.vows(p, flag)); break;
            case 13: due("sees" + args, m.sees(p), x.sees(p)); break;
            case 14: due("heard" + args, w.isPerson(p) ? m.bits(w.heard.get(p)) : -1, x.heard(p)); break;
            case 15: due("news" + args, m.news(), x.news()); break;
            case 16: due("alone" + args, m.alone(), x.alone()); break;
            case 17: due("reach" + args, m.reach(l), x.reach(l)); break;
            case 18: due("far" + args, w.isPlace(l) && w.isPlace(k) ? m.land.far(l, k) : -1, x.far(l, k)); break;
            case 19: due("cuts" + args, m.cuts(), x.cuts()); break;
            case 20: due("hub" + args, m.hub(), x.hub()); break;
            case 21: due("links" + args, w.isPlace(l) ? Integer.bitCount(m.place(l, 0)) : -1, x.links(l)); break;
            case 22: {
                int minutes = below(20) == 0 ? 100 : below(9) - 1;
                due("see" + args + minutes, m.see(l, minutes, flag) ? 1 : 0, x.see(l, minutes, flag) ? 1 : 0);
                break;
            }
            case 23: due("who" + args, m.who(), x.who()); break;
            case 24: due("ask" + args, m.ask(), x.ask()); break;
            case 25: due("wide" + args, m.wide(), x.wide()); break;
            case 26: due("has" + args, m.has(p, flag), x.has(p, flag)); break;
            case 27: due("sleeps" + args, w.isPerson(p) ? Math.max(0, m.land.persons.get(p).wakes - w.minute) : -1, x.sleeps(p)); break;
            case 28: due("rich" + args, m.rich(flag), x.rich(flag)); break;
            case 29: {
                int odds = below(14) - 1;
                due("chance" + with + " odds " + odds, m.chance(what, odds), x.chance(what, odds));
                break;
            }
            case 30: {
                int seed = below(20) == 0 ? 10000 : below(10000);
                int minutes = below(103) - 1;
                int which = below(20) == 0 ? 3 : below(3);
                due("mornings(" + seed + ", " + minutes + ", " + which + ")", m.mornings(seed, minutes, which), x.mornings(seed, minutes, which));
                break;
            }
            case 31: {
                int mark = below(6) - 1;
                due("mark" + args + mark, m.mark(mark, flag) ? 1 : 0, x.mark(mark, flag) ? 1 : 0);
                break;
            }
            case 32: {
                int which = below(5) - 1;
                due("judged" + args + which, m.judged(which), x.judged(which));
                break;
            }
            default: {
                int which = below(17) - 1;
                due("count(" + which + ")", m.count(which), x.count(which));
            }
        }
    }

    private static void rests() {
        for (int both = -1; both <= 10; both++) {
            for (int loses = -1; loses <= 10; loses++) {
                FirstChimney x = new FirstChimney();
                for (int gains = -1; gains <= 10; gains++) {
                    List<Integer> want = new ArrayList<>();
                    int[][] first = {{0, gains}, {-loses, -both}};
                    for (int a = 0; a < 2; a++) {
                        for (int b = 0; b < 2; b++) {
                            if (first[1 - a][b] <= first[a][b] && first[1 - b][a] <= first[b][a]) {
                                want.add(2 * a + b);
                            }
                        }
                    }
                    boolean fits = Math.min(both, Math.min(loses, gains)) >= 0 && Math.max(both, Math.max(loses, gains)) <= 9;
                    for (int what = -2; what < 6; what++) {
                        int due = !fits || what < -1 || what >= want.size() ? -7 : what == -1 ? want.size() : want.get(what);
                        int got;
                        try {
                            got = x.rests(both, loses, gains, what);
                        } catch (NoSuchElementException e) {
                            got = -7;
                        }
                        due("rests(" + both + " " + loses + " " + gains + " " + what + ")", due, got);
                    }
                }
            }
        }
    }

    private static void run() {
        FirstChimney x = new FirstChimney();
        Model m = new Model();
        for (int used = 0; used < 400; used++) {
            if (used == 0 || below(90) == 0) {
                used += feed(x, m, spoilt(landText()));
                due("land()", m.land(), x.land());
            } else if (below(60) == 0) {
                used += feed(x, m, spoilt(morningText(m.land)));
                due("morning()", m.morning(), x.morning());
            } else {
                call(x, m);
            }
        }
    }

    public static void main(String[] args) {
        rests();
        for (int run = 0; run < 1500; run++) {
            run();
        }
        if (args.length > 0) {
            new java.util.TreeMap<>(MET).forEach((k, v) -> System.out.println(k + ": " + v));
        }
        System.out.println(wrong == 0 ? "all " + calls + " answers are as the model's" : wrong + " answers are not as the model's");
        if (wrong != 0) {
            System.exit(1);
        }
    }
}
