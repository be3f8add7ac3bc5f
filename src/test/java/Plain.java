import java.math.BigInteger;
import java.util.ArrayList;
import java.util.Arrays;
import java.util.Collections;
import java.util.List;
import java.util.NoSuchElementException;
import java.util.regex.Matcher;
import java.util.regex.Pattern;

/**
 * The document once more, as slowly and plainly as it can be written: every way is tried, every state copied,
 * every rule read anew. AgainstPlainTest holds the class against it.
 */
final class Plain {
    private static final Pattern PEOPLE = Pattern.compile("([0-9]{4}(;[0-9]{4})*)?");
    private static final Pattern WEEK = Pattern.compile("(n[0-9]|s[0-9]{2}|g[0-9]{3}|m[0-9]{2}|c[0-9])*");

    /** What undo() brings back, with VOICES. */
    static final class World {
        int size = 0;
        int[] place = new int[7];
        int[] voice = new int[7];
        int[] purse = new int[7];
        int[] holder = new int[7];
        int[] age = new int[7];
        int day = 0;
        int said = 0;
        String rule = "v-f";

        World copy() {
            World w = new World();
            w.size = size;
            w.place = place.clone();
            w.voice = voice.clone();
            w.purse = purse.clone();
            w.holder = holder.clone();
            w.age = age.clone();
            w.day = day;
            w.said = said;
            w.rule = rule;
            return w;
        }

        boolean can(int one, int name) {
            return one < size && holder[name] != one && new Worth(this, one, name).all() >= 0;
        }

        void say(int one, int name) {
            holder[name] = one;
            age[name] = 0;
            if (said < 9999) {
                said++;
            }
        }

        void day(int silent) {
            for (int i = 0; i < size; i++) {
                if (i != silent && holder[i] != i && can(i, i)) {
                    say(i, i);
                }
            }
            for (int i = 0; i < size; i++) {
                int h = holder[i];
                if (h != i && purse[i] >= 1 && purse[h] < 99) {
                    purse[i] -= 1;
                    purse[h] += 1;
                }
            }
            for (int i = 0; i < size; i++) {
                age[i] = age[i] == 99 ? 99 : age[i] + 1;
            }
            day = day + 1;
        }

        World after(int days, int silent) {
            World w = copy();
            for (int i = 0; i < days; i++) {
                w.day(silent);
            }
            return w;
        }

        List<Integer> homes() {
            List<Integer> list = new ArrayList<>();
            for (int i = 0; i < size; i++) {
                if (holder[i] == i) {
                    list.add(i);
                }
            }
            return list;
        }

        int purses() {
            return Arrays.stream(purse, 0, size).sum();
        }

        List<Integer> sayable(int one) {
            List<Integer> list = new ArrayList<>();
            for (int i = 0; i < size; i++) {
                if (can(one, i)) {
                    list.add(i);
                }
            }
            return list;
        }

        int far(int a, int b) {
            return Math.abs(place[a] - place[b]);
        }
    }

    /** The worth of a rule that is known to be one, read from its text by splitting it at its least binding sign. */
    static final class Worth {
        private final World w;
        private final int one;
        private final int name;

        Worth(World w, int one, int name) {
            this.w = w;
            this.one = one;
            this.name = name;
        }

        int all() {
            return of(w.rule);
        }

        /** The last of these signs that joins two things outside brackets, or -1. */
        private static int lastJoin(String s, String signs) {
            int open = 0;
            for (int i = s.length() - 1; i > 0; i--) {
                char c = s.charAt(i);
                if (c == ')') {
                    open++;
                } else if (c == '(') {
                    open--;
                } else if (open == 0 && signs.indexOf(c) >= 0 && "<>=+-*/(".indexOf(s.charAt(i - 1)) < 0) {
                    return i;
                }
            }
            return -1;
        }

        int of(String s) {
            for (String signs : new String[] {"<>=", "+-", "*/"}) {
                int i = lastJoin(s, signs);
                if (i > 0) {
                    return joins(of(s.substring(0, i)), s.charAt(i), of(s.substring(i + 1)));
                }
            }
            char c = s.charAt(0);
            if (c == '-') {
                return -of(s.substring(1));
            }
            if (c == '(') {
                return of(s.substring(1, s.length() - 1));
            }
            if (Character.isDigit(c)) {
                return Integer.parseInt(s);
            }
            return thing(c);
        }

        private static int joins(int a, char sign, int b) {
            return switch (sign) {
                case '<' -> a < b ? 1 : 0;
                case '>' -> a > b ? 1 : 0;
                case '=' -> a == b ? 1 : 0;
                case '+' -> a + b;
                case '-' -> a - b;
                case '*' -> a * b;
                default -> b == 0 ? 0 : a / b;
            };
        }

        private int thing(char c) {
            int h = w.holder[name];
            return switch (c) {
                case 'v' -> w.voice[one];
                case 'u' -> w.voice[h];
                case 'f' -> w.far(one, h);
                case 'h' -> (int) Arrays.stream(w.holder, 0, w.size).filter(x -> x == one).count();
                case 'a' -> w.age[name];
                case 'o' -> one == name ? 1 : 0;
                case 'n' -> w.day % 7;
                default -> throw new IllegalStateException("no thing: " + c);
            };
        }
    }

    World w = new World();
    String text = "";
    List<Long> row = new ArrayList<>();
    List<World> undoable = new ArrayList<>();
    World[] kept = new World[2];
    List<int[]> ear = new ArrayList<>();
    List<int[]> eye = new ArrayList<>();

    private static int bits(List<Integer> list) {
        int b = 0;
        for (int i : list) {
            b |= 1 << i;
        }
        return b;
    }

    private void tell(long... numbers) {
        row.clear();
        for (long n : numbers) {
            row.add(n);
        }
    }

    private void tellAll(List<Integer> numbers) {
        row.clear();
        for (int n : numbers) {
            row.add((long) n);
        }
    }

    private boolean is(int one) {
        return 0 <= one && one < w.size;
    }

    /** Puts back what undo() brings back, leaving THE RULE. */
    private void back(World was) {
        String rule = w.rule;
        w = was.copy();
        w.rule = rule;
    }

    private void kept(World before) {
        undoable.add(before);
        if (undoable.size() > 12) {
            undoable.remove(0);
        }
    }

    private String taken() {
        String t = text;
        text = "";
        return t;
    }

    int sign(int v) {
        if (text.length() + 4 > 80) {
            return -1;
        }
        for (int i = 3; i >= 0; i--) {
            text += (char) (v >> 8 * i & 0xFF);
        }
        return text.length();
    }

    boolean end(int n) {
        if (n < 0 || n > text.length()) {
            return false;
        }
        text = text.substring(0, n);
        return true;
    }

    /** The first place at which the text can't go on as the pattern, with this room; -1: all can. */
    private static int wrongAt(Pattern pattern, String t, int room) {
        for (int p = 0; p < t.length(); p++) {
            Matcher m = pattern.matcher(t.substring(0, p + 1));
            boolean whole = m.matches();
            if (p >= room || !whole && !m.hitEnd()) {
                return p;
            }
        }
        return pattern.matcher(t).matches() ? -1 : t.length();
    }

    int people() {
        String t = taken();
        // with fewer places left, the first sign behind them is the first sign of a LINE, or the 34th
        int free = 7 - w.size;
        int wrong = wrongAt(PEOPLE, t, free == 7 ? 34 : 5 * free);
        if (wrong >= 0) {
            return -1 - wrong;
        }
        if (t.isEmpty()) {
            return 0;
        }
        String[] lines = t.split(";");
        for (String line : lines) {
            w.place[w.size] = line.charAt(0) - '0';
            w.voice[w.size] = line.charAt(1) - '0';
            w.purse[w.size] = Integer.parseInt(line.substring(2));
            w.holder[w.size] = w.size;
            w.size++;
        }
        undoable.clear();
        kept = new World[2];
        return lines.length;
    }

    /** As a walk over signs, with the brackets that stand open as a text of what each has seen: c a comparison. */
    private static int ruleWrongAt(String t) {
        if (t.isEmpty()) {
            return -1;
        }
        String open = "";
        boolean compared = false;
        boolean due = true;
        int digits = 0;
        for (int p = 0; p < t.length(); p++) {
            if (p == 40) {
                return p;
            }
            char c = t.charAt(p);
            boolean digit = c >= '0' && c <= '9';
            if (due && digit) {
                due = false;
                digits = 1;
            } else if (due && "vufhaon".indexOf(c) >= 0) {
                due = false;
                digits = 0;
            } else if (due && c == '(' && open.length() < 4) {
                open += compared ? 'c' : '.';
                compared = false;
            } else if (due && c == '-') {
                continue;
            } else if (due) {
                return p;
            } else if (digit && digits >= 1 && digits < 3) {
                digits++;
            } else if ("+-*/".indexOf(c) >= 0) {
                due = true;
            } else if ("<>=".indexOf(c) >= 0 && !compared) {
                compared = true;
                due = true;
            } else if (c == ')' && !open.isEmpty()) {
                compared = open.endsWith("c");
                open = open.substring(0, open.length() - 1);
                digits = 0;
            } else {
                return p;
            }
        }
        return due || !open.isEmpty() ? t.length() : -1;
    }

    int rule() {
        String t = taken();
        int wrong = ruleWrongAt(t);
        if (wrong >= 0) {
            return -1 - wrong;
        }
        w.rule = t.isEmpty() ? "v-f" : t;
        return 0;
    }

    int one(int one, int what) {
        if (!is(one) || what < 0 || what > 4) {
            throw new NoSuchElementException();
        }
        List<Integer> holds = new ArrayList<>();
        for (int i = 0; i < w.size; i++) {
            if (w.holder[i] == one) {
                holds.add(i);
            }
        }
        return new int[] {w.place[one], w.voice[one], w.purse[one], bits(holds), bits(w.sayable(one))}[what];
    }

    int name(int name, int what) {
        if (!is(name) || what < 0 || what > 3) {
            throw new NoSuchElementException();
        }
        List<Integer> sayers = new ArrayList<>();
        for (int i = 0; i < w.size; i++) {
            if (w.can(i, name)) {
                sayers.add(i);
            }
        }
        return new int[] {w.holder[name], w.age[name], bits(sayers), w.far(name, w.holder[name])}[what];
    }

    int sheet(int kind, int n, int f, int step) {
        if (kind < 0 || kind > 3 || n > 7) {
            return -1;
        }
        if (kind == 3) {
            Arrays.fill(w.purse, 0);
            return -3;
        }
        if (n < 0) {
            return -2;
        }
        int sum = 0;
        for (int i = 0; i < w.size; i++) {
            int e = f + i * step;
            e = kind == 0 ? (byte) e : kind == 1 ? (short) e : e;
            w.purse[i] = i >= n || e < 0 ? 0 : e > 99 ? 99 : e;
            sum += w.purse[i];
        }
        return sum;
    }

    private int doSays(int one, int name) {
        if (!is(one) || !is(name)) {
            return -1;
        }
        int was = w.holder[name];
        if (was == one) {
            return -2;
        }
        if (!w.can(one, name)) {
            return -3;
        }
        w.say(one, name);
        return was;
    }

    private int doSigns(int name, int n) {
        if (!is(name) || n < 1 || n > 99) {
            return -1;
        }
        int h = w.holder[name];
        if (h == name) {
            return -2;
        }
        if (n > w.purse[name] || w.purse[h] + n > 99) {
            return -3;
        }
        w.purse[name] -= n;
        w.purse[h] += n;
        return w.purse[h];
    }

    private int doMoves(int one, int place) {
        if (!is(one) || place < 0 || place > 9) {
            return -1;
        }
        int far = Math.abs(place - w.place[one]);
        w.place[one] = place;
        return far == 0 ? -2 : far;
    }

    private int doCalls(int one) {
        if (!is(one)) {
            return -1;
        }
        int n = 0;
        for (int i = 0; i < w.size; i++) {
            if (w.can(one, i)) {
                w.say(one, i);
                n++;
            }
        }
        return n == 0 ? -2 : n;
    }

    private int ifDone(World before, int answer) {
        if (answer >= 0) {
            kept(before);
        }
        return answer;
    }

    int says(int one, int name) {
        World before = w.copy();
        return ifDone(before, doSays(one, name));
    }

    int signs(int name, int n) {
        World before = w.copy();
        return ifDone(before, doSigns(name, n));
    }

    int moves(int one, int place) {
        World before = w.copy();
        return ifDone(before, doMoves(one, place));
    }

    int calls(int one) {
        World before = w.copy();
        return ifDone(before, doCalls(one));
    }

    int days(int n) {
        if (n < 0 || n > 60) {
            return -1;
        }
        World before = w;
        w = w.after(n, -1);
        if (n > 0) {
            kept(before);
        }
        tell(w.said - before.said, w.purses());
        return bits(w.homes());
    }

    int week() {
        String t = taken();
        int wrong = wrongAt(WEEK, t, 60);
        if (wrong >= 0) {
            return -1 - wrong;
        }
        World before = w.copy();
        int done = 0;
        Matcher m = Pattern.compile("[a-z][0-9]+").matcher(t);
        while (m.find()) {
            String act = m.group();
            int a = act.charAt(1) - '0';
            int rest = act.length() > 2 ? Integer.parseInt(act.substring(2)) : 0;
            int answer = switch (act.charAt(0)) {
                case 's' -> doSays(a, rest);
                case 'g' -> doSigns(a, rest);
                case 'm' -> doMoves(a, rest);
                case 'c' -> doCalls(a);
                default -> {
                    w = w.after(a, -1);
                    yield 0;
                }
            };
            if (answer < 0) {
                done = -1 - done;
                break;
            }
            done++;
        }
        tell(done < 0 ? 1 : 0, w.said);
        done = done < 0 ? -1 - done : done;
        if (done > 0) {
            kept(before);
        }
        return done;
    }

    int undo() {
        if (undoable.isEmpty()) {
            return -1;
        }
        back(undoable.remove(undoable.size() - 1));
        return undoable.size();
    }

    int brings(int name, int one) {
        if (!is(name) || !is(one)) {
            return -1;
        }
        for (int n = 0; n <= 4; n++) {
            List<Integer> way = way(w, name, one, n);
            if (way != null) {
                tellAll(way);
                return n;
            }
        }
        return -2;
    }

    private static List<Integer> way(World from, int name, int one, int n) {
        if (n == 0) {
            return from.holder[name] == one ? new ArrayList<>() : null;
        }
        for (int i = 0; i < from.size; i++) {
            if (from.can(i, name)) {
                World next = from.copy();
                next.say(i, name);
                List<Integer> way = way(next, name, one, n - 1);
                if (way != null) {
                    way.add(0, i);
                    return way;
                }
            }
        }
        return null;
    }

    int later(int name, int n) {
        if (!is(name) || n < 0 || n > 99) {
            return -1;
        }
        World then = w.after(n, -1);
        tell(then.purse[name], then.age[name]);
        return then.holder[name];
    }

    int home(int name) {
        if (!is(name)) {
            return -1;
        }
        for (int d = 0; d <= 99; d++) {
            World then = w.after(d, -1);
            if (then.holder[name] == name) {
                tell(then.homes().size());
                return d;
            }
        }
        return -2;
    }

    int poor(int one) {
        if (!is(one)) {
            return -1;
        }
        for (int d = 0; d <= 99; d++) {
            World then = w.after(d, -1);
            if (then.purse[one] == 0) {
                tell(then.purses());
                return d;
            }
        }
        return -2;
    }

    private List<Integer> path(int name) {
        List<Integer> path = new ArrayList<>();
        int at = name;
        while (!path.contains(at)) {
            path.add(at);
            at = w.holder[at];
        }
        path.add(at);
        return path;
    }

    int leads(int name) {
        if (!is(name)) {
            return -1;
        }
        List<Integer> path = path(name);
        int steps = path.size() - 1;
        int who = path.get(steps);
        tell(who, steps - path.indexOf(who));
        return steps;
    }

    int rings() {
        List<List<Integer>> rings = new ArrayList<>();
        for (int i = 0; i < w.size; i++) {
            List<Integer> path = path(i);
            if (path.get(path.size() - 1) == i) {
                List<Integer> ring = new ArrayList<>(path.subList(0, path.size() - 1));
                Collections.sort(ring);
                if (!rings.contains(ring)) {
                    rings.add(ring);
                }
            }
        }
        row.clear();
        for (List<Integer> ring : rings) {
            if (row.isEmpty() || ring.size() > row.get(0)) {
                tell(ring.size(), ring.get(0));
            }
        }
        return rings.size();
    }

    int robs(int one) {
        if (!is(one)) {
            return -1;
        }
        int sum = 0;
        int best = -1;
        for (int i = w.size - 1; i >= 0; i--) {
            if (i != one && w.holder[i] == one) {
                sum += w.purse[i];
                best = best < 0 || w.purse[i] >= w.purse[best] ? i : best;
            }
        }
        tell(best);
        return sum;
    }

    /** All orders of these, from the least on. */
    private static List<List<Integer>> orders(List<Integer> of) {
        List<List<Integer>> all = new ArrayList<>();
        if (of.isEmpty()) {
            all.add(new ArrayList<>());
        }
        for (int i = 0; i < of.size(); i++) {
            List<Integer> rest = new ArrayList<>(of);
            int first = rest.remove(i);
            for (List<Integer> order : orders(rest)) {
                order.add(0, first);
                all.add(order);
            }
        }
        return all;
    }

    int order() {
        List<Integer> away = new ArrayList<>();
        for (int i = 0; i < w.size && away.size() < 6; i++) {
            if (w.holder[i] != i) {
                away.add(i);
            }
        }
        int most = -1;
        for (List<Integer> order : orders(away)) {
            World then = w.copy();
            for (int i : order) {
                if (then.can(i, i)) {
                    then.say(i, i);
                }
            }
            if (then.homes().size() > most) {
                most = then.homes().size();
                tellAll(order);
            }
        }
        return most;
    }

    int silences(int n) {
        if (n < 1 || n > 30) {
            return -1;
        }
        if (w.size == 0) {
            return -2;
        }
        int best = 0;
        for (int i = 1; i < w.size; i++) {
            if (w.after(n, i).homes().size() > w.after(n, best).homes().size()) {
                best = i;
            }
        }
        tell(w.after(n, best).homes().size(), w.after(n, -1).homes().size());
        return best;
    }

    int goes(int one) {
        if (!is(one)) {
            return -1;
        }
        // hundreds: names, tens: nearness, ones: lesser places
        int best = -1;
        for (int p = 0; p <= 9; p++) {
            World there = w.copy();
            there.place[one] = p;
            int far = Math.abs(p - w.place[one]);
            best = Math.max(best, 100 * there.sayable(one).size() + 10 * (9 - far) + 9 - p);
        }
        tell(best / 100, 9 - best / 10 % 10);
        return 9 - best % 10;
    }

    int peace() {
        for (int d = 0; d <= 99; d++) {
            World then = w.after(d, -1);
            if (then.homes().size() == w.size) {
                tell(then.purses());
                return d;
            }
        }
        return -2;
    }

    int wed() {
        int n = 0;
        row.clear();
        for (int a = 0; a < w.size; a++) {
            for (int b = a + 1; b < w.size; b++) {
                if (w.holder[a] == b && w.holder[b] == a) {
                    n++;
                    if (n == 1) {
                        tell(a, b);
                    }
                }
            }
        }
        return n;
    }

    int loud() {
        if (w.size == 0) {
            return -2;
        }
        int best = 0;
        int unsaid = (1 << w.size) - 1;
        for (int i = 0; i < w.size; i++) {
            best = w.sayable(i).size() > w.sayable(best).size() ? i : best;
            unsaid &= ~bits(w.sayable(i));
        }
        tell(w.sayable(best).size(), unsaid);
        return best;
    }

    private List<Integer> all() {
        List<Integer> all = new ArrayList<>();
        for (int i = 0; i < w.size; i++) {
            all.add(i);
        }
        return all;
    }

    int mouths() {
        if (w.size < 2) {
            return -2;
        }
        int least = Integer.MAX_VALUE;
        for (List<Integer> order : orders(all())) {
            int sum = 0;
            for (int i = 0; i < w.size; i++) {
                sum += order.get(i) == i ? 1000 : w.far(i, order.get(i));
            }
            if (sum < least) {
                least = sum;
                tellAll(order);
            }
        }
        return least;
    }

    int criers(int v) {
        if (v < 0 || v > 9) {
            return -1;
        }
        for (int n = 0; n <= w.size; n++) {
            for (int set = 0; set < 1 << w.size; set++) {
                if (Integer.bitCount(set) == n && allHear(set, v)) {
                    tell(set);
                    return n;
                }
            }
        }
        throw new IllegalStateException();
    }

    private boolean allHear(int set, int v) {
        for (int i = 0; i < w.size; i++) {
            boolean hears = false;
            for (int c = 0; c < w.size; c++) {
                hears |= (set >> c & 1) == 1 && w.far(i, c) <= v;
            }
            if (!hears) {
                return false;
            }
        }
        return true;
    }

    private List<Integer> lined() {
        List<Integer> line = all();
        line.sort((a, b) -> w.place[a] != w.place[b] ? w.place[a] - w.place[b] : a - b);
        return line;
    }

    int line() {
        tellAll(lined());
        return w.size;
    }

    int rich() {
        List<Integer> line = lined();
        List<Integer> best = new ArrayList<>();
        for (int set = 0; set < 1 << w.size; set++) {
            List<Integer> places = new ArrayList<>();
            boolean grows = true;
            for (int i = 0; i < w.size; i++) {
                if ((set >> i & 1) == 1) {
                    int last = places.isEmpty() ? -1 : w.purse[line.get(places.get(places.size() - 1))];
                    grows &= w.purse[line.get(i)] > last;
                    places.add(i);
                }
            }
            boolean better = places.size() > best.size()
                    || places.size() == best.size() && places.toString().compareTo(best.toString()) < 0;
            if (grows && better) {
                best = places;
            }
        }
        row.clear();
        for (int place : best) {
            row.add((long) line.get(place));
        }
        return best.size();
    }

    int heard(int what, int v) {
        int[] most = {6, 99, 99, 9, 6};
        if (what < 0 || what > 4 || v < 0 || v > most[what] || ear.size() == 12) {
            return -1;
        }
        ear.add(new int[] {what, v});
        return ear.size();
    }

    int forget() {
        int n = ear.size();
        ear.clear();
        return n;
    }

    private boolean so(int name, int what, int v) {
        return switch (what) {
            case 0 -> w.holder[name] == v;
            case 1 -> w.age[name] >= v;
            case 2 -> w.purse[name] >= v;
            case 3 -> w.place[w.holder[name]] == v;
            default -> w.can(v, name);
        };
    }

    private List<Integer> fitting() {
        List<Integer> names = all();
        for (int[] h : ear) {
            names.removeIf(name -> !so(name, h[0], h[1]));
        }
        return names;
    }

    int fits() {
        tell(fitting().size());
        return bits(fitting());
    }

    int asks() {
        List<Integer> names = fitting();
        if (names.isEmpty()) {
            return -2;
        }
        int best = -1;
        int fewest = 99;
        for (int q = 0; q < 50; q++) {
            int what = q / 10;
            int v = q % 10;
            if (what == 0 && v <= 6 || what == 3 || what == 4 && v <= 6) {
                int yes = (int) names.stream().filter(name -> so(name, what, v)).count();
                int left = Math.max(yes, names.size() - yes);
                if (left < fewest) {
                    fewest = left;
                    best = q;
                }
            }
        }
        tell(fewest);
        return best;
    }

    int saw(int v, int f, int is) {
        if (v < 0 || v > 9 || f < 0 || f > 9 || is < 0 || is > 1 || eye.size() == 10) {
            return -1;
        }
        eye.add(new int[] {v, f, is});
        return eye.size();
    }

    int denies() {
        int n = eye.size();
        eye.clear();
        return n;
    }

    private static boolean hears(int law, int v, int f) {
        return law / 40 * v - law / 10 % 4 * f >= law % 10;
    }

    private List<Integer> fittingLaws() {
        List<Integer> laws = new ArrayList<>();
        for (int law = 0; law < 160; law++) {
            boolean fits = true;
            for (int[] e : eye) {
                fits &= hears(law, e[0], e[1]) == (e[2] == 1);
            }
            if (fits) {
                laws.add(law);
            }
        }
        return laws;
    }

    int laws() {
        List<Integer> laws = fittingLaws();
        row.clear();
        if (!laws.isEmpty()) {
            int law = laws.get(0);
            tell(law / 40, law / 10 % 4, law % 10);
        }
        return laws.size();
    }

    int tries() {
        List<Integer> laws = fittingLaws();
        if (laws.isEmpty()) {
            return -2;
        }
        int best = -1;
        int fewest = 999;
        for (int q = 0; q < 100; q++) {
            int v = q / 10;
            int f = q % 10;
            int yes = (int) laws.stream().filter(law -> hears(law, v, f)).count();
            int left = Math.max(yes, laws.size() - yes);
            if (left < fewest) {
                fewest = left;
                best = q;
            }
        }
        tell(fewest);
        return best;
    }

    int walks(int x, int n, int p, int y) {
        if (x < 0 || x > 9 || n < 0 || n > 12 || p < 0 || p > 10 || y < 0 || y > 9) {
            return -1;
        }
        BigInteger upper = walk(x, n, p, y);
        BigInteger lower = BigInteger.TEN.pow(n);
        BigInteger by = upper.gcd(lower);
        tell(upper.divide(by).longValueExact(), lower.divide(by).longValueExact());
        return 0;
    }

    private static BigInteger walk(int x, int n, int p, int y) {
        if (n == 0) {
            return x == y ? BigInteger.ONE : BigInteger.ZERO;
        }
        BigInteger on = walk(x == 9 ? 9 : x + 1, n - 1, p, y).multiply(BigInteger.valueOf(p));
        return on.add(walk(x == 0 ? 0 : x - 1, n - 1, p, y).multiply(BigInteger.valueOf(10 - p)));
    }

    private final Boolean[] hushWon = new Boolean[441];

    /** The moves from here, from the least on. */
    private static List<int[]> takes(int a, int b) {
        List<int[]> takes = new ArrayList<>();
        for (int k = 1; k <= b && k <= a; k++) {
            takes.add(new int[] {0, k});
        }
        for (int k = 1; k <= a && k <= b; k++) {
            takes.add(new int[] {k, 0});
        }
        return takes;
    }

    private boolean won(int a, int b) {
        int key = 21 * a + b;
        if (hushWon[key] == null) {
            List<int[]> takes = takes(a, b);
            boolean won = takes.isEmpty();
            for (int[] t : takes) {
                won |= !won(a - t[0], b - t[1]);
            }
            hushWon[key] = won;
        }
        return hushWon[key];
    }

    int hush(int a, int b) {
        if (a < 0 || a > 20 || b < 0 || b > 20) {
            return -1;
        }
        row.clear();
        for (int[] t : takes(a, b)) {
            if (row.isEmpty() && !won(a - t[0], b - t[1])) {
                tell(t[0], t[1]);
            }
        }
        return won(a, b) ? 1 : 0;
    }

    private static int has(int mine, int his, int v) {
        int has = -mine;
        if (mine > his) {
            has += v;
        }
        for (int times = 7; times <= mine + his; times++) {
            has -= 2;
        }
        return has;
    }

    int rests(int v) {
        if (v < 0 || v > 20) {
            return -1;
        }
        row.clear();
        int n = 0;
        for (int x = 0; x <= 9; x++) {
            for (int y = 0; y <= 9; y++) {
                boolean rest = true;
                for (int other = 0; other <= 9; other++) {
                    rest &= has(other, y, v) <= has(x, y, v) && has(other, x, v) <= has(y, x, v);
                }
                if (rest) {
                    n++;
                    if (n == 1) {
                        tell(x, y);
                    }
                }
            }
        }
        return n;
    }

    int law() {
        String t = taken();
        int wrong = ruleWrongAt(t);
        if (wrong >= 0) {
            return -10000 - wrong;
        }
        World other = w.copy();
        other.rule = t.isEmpty() ? "v-f" : t;
        int byIt = 0;
        int byRule = 0;
        for (int i = 0; i < w.size; i++) {
            byIt += other.sayable(i).size();
            byRule += w.sayable(i).size();
        }
        tell(byIt, byRule);
        for (int i = 0; i < w.size; i++) {
            row.add((long) bits(other.sayable(i)));
        }
        return byIt - byRule;
    }

    private int lot;

    private int draw(int n) {
        lot = lot * 1103515245 + 12345;
        return (int) (Integer.toUnsignedLong(lot) / 65536 % n);
    }

    int years(int seed, int n) {
        if (n < 1 || n > 60) {
            return -1;
        }
        lot = seed;
        World before = w;
        w = w.copy();
        for (int i = 0; i < n; i++) {
            int kind = draw(4);
            if (kind == 0) {
                w.day(-1);
            } else if (w.size > 0) {
                int one = draw(w.size);
                int to = draw(kind == 3 ? 10 : w.size);
                if (kind == 3) {
                    doMoves(one, to);
                } else {
                    doSays(one, to);
                }
            }
        }
        tell(w.said - before.said, w.purses());
        int home = bits(w.homes());
        w = before;
        return home;
    }

    boolean keep(int i) {
        if (i != 0 && i != 1) {
            return false;
        }
        kept[i] = w.copy();
        return true;
    }

    boolean again(int i) {
        if (i < 0 || i > 1 || kept[i] == null) {
            return false;
        }
        back(kept[i]);
        undoable.clear();
        return true;
    }

    int count(int what) {
        int ages = Arrays.stream(w.age, 0, w.size).sum();
        int voices = Arrays.stream(w.voice, 0, w.size).sum();
        int[] all = {w.size, w.day, w.said, bits(w.homes()), w.purses(), ages, voices, ear.size(), eye.size(),
            undoable.size(), row.size(), text.length()};
        return what < 0 || what > 11 ? -1 : all[what];
    }

    long row(int i) {
        if (i < 0 || i >= row.size()) {
            throw new NoSuchElementException();
        }
        return row.get(i);
    }
}
