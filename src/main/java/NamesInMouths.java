import java.util.NoSuchElementException;

/** Names along a dyke, each kept by whoever said it last. The document numbers what each call promises. */
public final class NamesInMouths {
    public static final int NONE = -1;

    private static final int NOT_SO = -2;
    private static final int NOT_ABLE = -3;
    private static final int ALL_STAND = -1;
    private static final int NOBODY = -1;
    private static final int MOST_PEOPLE = 7;
    private static final int PLACES = 10;
    private static final int MOST_PURSE = 99;
    private static final int MOST_AGE = 99;
    private static final int MOST_SAID = 9999;
    private static final int MOST_DAYS = 60;
    private static final int FAR_DAYS = 99;
    private static final int PEOPLE_SIGNS = 34;
    private static final int LINE_DIGITS = 4;
    private static final int RULE_SIGNS = 40;
    private static final int WEEK_SIGNS = 60;
    private static final int LAW_WRONG = -10000;

    private final Text text = new Text();
    private final Told told = new Told();
    private final Fen fen = new Fen();
    private final Fen trial = new Fen();
    private final RuleReader reader = new RuleReader();
    private final Past past = new Past();
    private final Ways ways = new Ways();
    private final Dyke dyke = new Dyke();
    private final Ear ear = new Ear();
    private final Seen seen = new Seen();
    private final Plays plays = new Plays();
    private Rule ruling = new Rule();
    private Rule spare = new Rule();

    public NamesInMouths() {
    }

    // ---- people

    public int sign(int v) {
        return text.adds(v) ? text.length : NONE;
    }

    public boolean end(int n) {
        return text.cuts(n);
    }

    public int people() {
        int wrong = peopleWrongAt();
        int lines = wrong == ALL_STAND ? takePeople() : 0;
        text.length = 0;
        if (wrong != ALL_STAND) {
            return -1 - wrong;
        }
        if (lines > 0) {
            past.forgetsAll();
        }
        return lines;
    }

    public int rule() {
        int wrong = reader.reads(text, spare);
        text.length = 0;
        if (wrong != ALL_STAND) {
            return -1 - wrong;
        }
        Rule was = ruling;
        ruling = spare;
        spare = was;
        return 0;
    }

    public int one(int one, int what) throws NoSuchElementException {
        if (!fen.has(one)) {
            throw new NoSuchElementException();
        }
        switch (what) {
            case 0: return fen.place[one];
            case 1: return fen.voice[one];
            case 2: return fen.purse[one];
            case 3: return fen.held(one);
            case 4: return fen.sayable(ruling, one);
            default: throw new NoSuchElementException();
        }
    }

    public int name(int name, int what) throws NoSuchElementException {
        if (!fen.has(name)) {
            throw new NoSuchElementException();
        }
        switch (what) {
            case 0: return fen.holder[name];
            case 1: return fen.age[name];
            case 2: return fen.sayers(ruling, name);
            case 3: return fen.far(fen.holder[name], name);
            default: throw new NoSuchElementException();
        }
    }

    public int sheet(int kind, int n, int f, int step) {
        if (kind < 0 || kind > 3 || n > MOST_PEOPLE) {
            return NONE;
        }
        if (kind == 3) {
            fillPurses(kind, 0, f, step);
            return NOT_ABLE;
        }
        if (n < 0) {
            return NOT_SO;
        }
        fillPurses(kind, n, f, step);
        return fen.purses();
    }

    // ---- sayings, deeds, days

    public int says(int one, int name) {
        past.marks(fen);
        return keepDone(fen.saidBy(ruling, one, name));
    }

    public int signs(int name, int n) {
        past.marks(fen);
        return keepDone(fen.signedFor(name, n));
    }

    public int moves(int one, int place) {
        past.marks(fen);
        return keepDone(fen.movedTo(one, place));
    }

    public int calls(int one) {
        past.marks(fen);
        return keepDone(fen.rollCalled(ruling, one));
    }

    public int days(int n) {
        if (n < 0 || n > MOST_DAYS) {
            return NONE;
        }
        past.marks(fen);
        int before = fen.said;
        fen.passDays(ruling, n, NOBODY);
        if (n > 0) {
            past.keepMarked();
        }
        told.tells(fen.said - before, fen.purses());
        return fen.homes();
    }

    public int week() {
        int wrong = weekWrongAt();
        if (wrong != ALL_STAND) {
            text.length = 0;
            return -1 - wrong;
        }
        past.marks(fen);
        int done = 0;
        boolean stopped = false;
        for (int p = 0; p < text.length && !stopped; p += 1 + actDigits(text.at(p))) {
            stopped = act(p) < 0;
            done += stopped ? 0 : 1;
        }
        text.length = 0;
        if (done > 0) {
            past.keepMarked();
        }
        told.tells(stopped ? 1 : 0, fen.said);
        return done;
    }

    public int undo() {
        return past.bringsBack(fen) ? past.size : NONE;
    }

    // ---- who holds what

    public int brings(int name, int one) {
        if (!fen.has(name) || !fen.has(one)) {
            return NONE;
        }
        trial.takes(fen);
        int sayings = ways.toHold(trial, ruling, name, one);
        if (sayings < 0) {
            return NOT_SO;
        }
        told.clears();
        for (int i = 0; i < sayings; i++) {
            told.adds(ways.sayer(i));
        }
        return sayings;
    }

    public int later(int name, int n) {
        if (!fen.has(name) || n < 0 || n > FAR_DAYS) {
            return NONE;
        }
        trial.takes(fen);
        trial.passDays(ruling, n, NOBODY);
        told.tells(trial.purse[name], trial.age[name]);
        return trial.holder[name];
    }

    public int home(int name) {
        if (!fen.has(name)) {
            return NONE;
        }
        int days = daysUntilHome(1 << name);
        if (days < 0) {
            return NOT_SO;
        }
        told.tells(Integer.bitCount(trial.homes()));
        return days;
    }

    public int poor(int one) {
        if (!fen.has(one)) {
            return NONE;
        }
        trial.takes(fen);
        for (int d = 0; d <= FAR_DAYS; d++) {
            if (trial.purse[one] == 0) {
                told.tells(trial.purses());
                return d;
            }
            trial.passDay(ruling, NOBODY);
        }
        return NOT_SO;
    }

    public int leads(int name) {
        if (!fen.has(name)) {
            return NONE;
        }
        int met = 0;
        int at = name;
        int steps = 0;
        for (int i = 0; i <= MOST_PEOPLE && (met >> at & 1) == 0; i++) {
            met |= 1 << at;
            at = fen.holder[at];
            steps++;
        }
        told.tells(at, Integer.bitCount(fen.ring(at)));
        return steps;
    }

    public int rings() {
        int rings = 0;
        int largest = 0;
        int first = NOBODY;
        for (int one = 0; one < fen.size; one++) {
            int ring = fen.ring(one);
            // a ring is counted at its least member alone, so that it counts once
            if (ring != 0 && Integer.numberOfTrailingZeros(ring) == one) {
                rings++;
                if (Integer.bitCount(ring) > largest) {
                    largest = Integer.bitCount(ring);
                    first = one;
                }
            }
        }
        told.clears();
        if (rings > 0) {
            told.tells(largest, first);
        }
        return rings;
    }

    public int robs(int one) {
        if (!fen.has(one)) {
            return NONE;
        }
        int sum = 0;
        int best = -1;
        for (int name = 0; name < fen.size; name++) {
            if (fen.holder[name] == one && name != one) {
                sum += fen.purse[name];
                if (best < 0 || fen.purse[name] > fen.purse[best]) {
                    best = name;
                }
            }
        }
        told.tells(best);
        return sum;
    }

    // ---- saying back, being silenced

    public int order() {
        trial.takes(fen);
        int most = ways.sayBack(trial, ruling);
        told.clears();
        for (int i = 0; i < ways.turns; i++) {
            told.adds(ways.best[i]);
        }
        return most;
    }

    public int silences(int n) {
        if (n < 1 || n > 30) {
            return NONE;
        }
        if (fen.size == 0) {
            return NOT_SO;
        }
        int silent = NOBODY;
        int most = -1;
        for (int one = 0; one < fen.size; one++) {
            int homes = homesAfter(n, one);
            if (homes > most) {
                most = homes;
                silent = one;
            }
        }
        told.tells(most, homesAfter(n, NOBODY));
        return silent;
    }

    public int goes(int one) {
        if (!fen.has(one)) {
            return NONE;
        }
        trial.takes(fen);
        int from = fen.place[one];
        int to = from;
        int most = -1;
        for (int place = 0; place < PLACES; place++) {
            trial.place[one] = place;
            int names = Integer.bitCount(trial.sayable(ruling, one));
            if (names > most || names == most && Math.abs(place - from) < Math.abs(to - from)) {
                most = names;
                to = place;
            }
        }
        told.tells(most, Math.abs(to - from));
        return to;
    }

    public int peace() {
        int days = daysUntilHome((1 << fen.size) - 1);
        if (days < 0) {
            return NOT_SO;
        }
        told.tells(trial.purses());
        return days;
    }

    public int wed() {
        int pairs = 0;
        told.clears();
        for (int a = 0; a < fen.size; a++) {
            int b = fen.holder[a];
            if (b > a && fen.holder[b] == a) {
                if (pairs == 0) {
                    told.tells(a, b);
                }
                pairs++;
            }
        }
        return pairs;
    }

    public int loud() {
        if (fen.size == 0) {
            return NOT_SO;
        }
        int loudest = 0;
        int most = -1;
        int said = 0;
        for (int one = 0; one < fen.size; one++) {
            int names = fen.sayable(ruling, one);
            said |= names;
            if (Integer.bitCount(names) > most) {
                most = Integer.bitCount(names);
                loudest = one;
            }
        }
        told.tells(most, (1 << fen.size) - 1 & ~said);
        return loudest;
    }

    // ---- mouths, criers

    public int mouths() {
        if (fen.size < 2) {
            return NOT_SO;
        }
        int least = dyke.sharesMouths(fen);
        told.clears();
        for (int name = 0; name < fen.size; name++) {
            told.adds(dyke.row[name]);
        }
        return least;
    }

    public int criers(int v) {
        if (v < 0 || v >= PLACES) {
            return NONE;
        }
        int fewest = dyke.fewestCriers(fen, v);
        told.tells(fewest);
        return Integer.bitCount(fewest);
    }

    public int line() {
        dyke.linesUp(fen);
        told.clears();
        for (int i = 0; i < fen.size; i++) {
            told.adds(dyke.row[i]);
        }
        return fen.size;
    }

    public int rich() {
        dyke.linesUp(fen);
        int longest = dyke.longestFrom(fen);
        told.clears();
        int left = longest;
        int ahead = -1;
        for (int i = 0; i < fen.size && left > 0; i++) {
            int purse = fen.purse[dyke.row[i]];
            if (dyke.runs[i] == left && purse > ahead) {
                told.adds(dyke.row[i]);
                ahead = purse;
                left--;
            }
        }
        return longest;
    }

    // ---- whose it was

    public int heard(int what, int v) {
        return ear.hears(what, v) ? ear.size : NONE;
    }

    public int forget() {
        int size = ear.size;
        ear.size = 0;
        return size;
    }

    public int fits() {
        int names = ear.fitting(fen, ruling);
        told.tells(Integer.bitCount(names));
        return names;
    }

    public int asks() {
        int names = ear.fitting(fen, ruling);
        if (names == 0) {
            return NOT_SO;
        }
        int best = 0;
        int fewest = MOST_PEOPLE + 1;
        for (int what : Ear.ASKED) {
            for (int v = 0; v < Ear.values(what); v++) {
                int left = ear.mostLeft(fen, ruling, names, what, v);
                if (left < fewest) {
                    fewest = left;
                    best = 10 * what + v;
                }
            }
        }
        told.tells(fewest);
        return best;
    }

    // ---- laws of hearing

    public int saw(int v, int f, int is) {
        return seen.sees(v, f, is) ? seen.size : NONE;
    }

    public int denies() {
        int size = seen.size;
        seen.size = 0;
        return size;
    }

    public int laws() {
        int fitting = seen.fitLaws();
        told.clears();
        int least = seen.leastPair();
        if (least >= 0) {
            told.tells(least / Seen.FACTORS, least % Seen.FACTORS);
            told.adds(seen.low[least]);
        }
        return fitting;
    }

    public int tries() {
        int fitting = seen.fitLaws();
        if (fitting == 0) {
            return NOT_SO;
        }
        int best = 0;
        int fewest = fitting + 1;
        for (int voice = 0; voice < 10; voice++) {
            for (int far = 0; far < 10; far++) {
                int can = seen.lawsThatHear(voice, far);
                int left = Math.max(can, fitting - can);
                if (left < fewest) {
                    fewest = left;
                    best = 10 * voice + far;
                }
            }
        }
        told.tells(fewest);
        return best;
    }

    // ---- walks, silences by turns

    public int walks(int x, int n, int p, int y) {
        if (x < 0 || x >= PLACES || y < 0 || y >= PLACES || n < 0 || n > 12 || p < 0 || p > 10) {
            return NONE;
        }
        long upper = plays.walked(x, n, p, y);
        long lower = 1;
        for (int i = 0; i < n; i++) {
            lower *= 10;
        }
        long common = greatestCommon(upper, lower);
        told.clears();
        told.adds(common == 0 ? upper : upper / common);
        told.adds(common == 0 ? lower : lower / common);
        return 0;
    }

    public int hush(int a, int b) {
        if (a < 0 || a > Plays.MOST_BREATHS || b < 0 || b > Plays.MOST_BREATHS) {
            return NONE;
        }
        plays.readiesHush();
        told.clears();
        int second = plays.winningTake(a, b);
        int first = plays.winningTake(b, a);
        // a move of the second heap is the lesser one, as it takes 0 of the first
        if (second > 0) {
            told.tells(0, second);
        } else if (first > 0) {
            told.tells(first, 0);
        }
        return plays.wins(a, b) ? 1 : 0;
    }

    // ---- rests, rules, years

    public int rests(int v) {
        if (v < 0 || v > 20) {
            return NONE;
        }
        plays.readiesRests(v);
        told.clears();
        int rests = 0;
        for (int x = 0; x < Plays.SAYINGS; x++) {
            for (int y = 0; y < Plays.SAYINGS; y++) {
                if (plays.isRest(x, y, v)) {
                    if (rests == 0) {
                        told.tells(x, y);
                    }
                    rests++;
                }
            }
        }
        return rests;
    }

    public int law() {
        int wrong = reader.reads(text, spare);
        text.length = 0;
        if (wrong != ALL_STAND) {
            return LAW_WRONG - wrong;
        }
        int byIt = fen.pairs(spare);
        int byRule = fen.pairs(ruling);
        told.tells(byIt, byRule);
        for (int one = 0; one < fen.size; one++) {
            told.adds(fen.sayable(spare, one));
        }
        return byIt - byRule;
    }

    public int years(int seed, int n) {
        if (n < 1 || n > 60) {
            return NONE;
        }
        plays.lot = seed;
        trial.takes(fen);
        for (int i = 0; i < n; i++) {
            triesDrawn(plays.draw(4));
        }
        told.tells(trial.said - fen.said, trial.purses());
        return trial.homes();
    }

    // ---- kept

    public boolean keep(int i) {
        return past.shelves(i, fen);
    }

    public boolean again(int i) {
        return past.unshelves(i, fen);
    }

    public int count(int what) {
        switch (what) {
            case 0: return fen.size;
            case 1: return fen.day;
            case 2: return fen.said;
            case 3: return fen.homes();
            case 4: return fen.purses();
            case 5: return fen.sum(fen.age);
            case 6: return fen.sum(fen.voice);
            case 7: return ear.size;
            case 8: return seen.size;
            case 9: return past.size;
            case 10: return told.size;
            case 11: return text.length;
            default: return NONE;
        }
    }

    public long row(int i) throws NoSuchElementException {
        if (i < 0 || i >= told.size) {
            throw new NoSuchElementException();
        }
        return told.numbers[i];
    }

    // ---- what the calls share

    /** The place of the first sign that can't stand in a text of PEOPLE, or ALL_STAND. */
    private int peopleWrongAt() {
        int end = Math.min(text.length, PEOPLE_SIGNS);
        for (int p = 0; p < end; p++) {
            if (!standsInLine(p)) {
                return p;
            }
        }
        if (text.length > PEOPLE_SIGNS) {
            return PEOPLE_SIGNS;
        }
        boolean whole = text.length == 0 || text.length % (LINE_DIGITS + 1) == LINE_DIGITS;
        return whole ? ALL_STAND : text.length;
    }

    private boolean standsInLine(int p) {
        int within = p % (LINE_DIGITS + 1);
        if (within == LINE_DIGITS) {
            return text.at(p) == ';';
        }
        boolean room = fen.size + p / (LINE_DIGITS + 1) < MOST_PEOPLE;
        return room && text.isDigit(p);
    }

    private int takePeople() {
        int lines = 0;
        for (int p = 0; p < text.length; p += LINE_DIGITS + 1) {
            fen.adds(text.digit(p), text.digit(p + 1), text.twoDigits(p + 2));
            lines++;
        }
        return lines;
    }

    private void fillPurses(int kind, int n, int f, int step) {
        for (int one = 0; one < fen.size; one++) {
            int entry = one < n ? f + one * step : 0;
            if (kind == 0) {
                entry = (byte) entry;
            } else if (kind == 1) {
                entry = (short) entry;
            }
            fen.purse[one] = Math.max(0, Math.min(MOST_PURSE, entry));
        }
    }

    private int keepDone(int answer) {
        if (answer >= 0) {
            past.keepMarked();
        }
        return answer;
    }

    private int weekWrongAt() {
        int end = Math.min(text.length, WEEK_SIGNS);
        int digitsDue = 0;
        for (int p = 0; p < end; p++) {
            if (digitsDue > 0) {
                if (!text.isDigit(p)) {
                    return p;
                }
                digitsDue--;
            } else {
                digitsDue = actDigits(text.at(p));
                if (digitsDue == 0) {
                    return p;
                }
            }
        }
        boolean whole = digitsDue == 0 && text.length <= WEEK_SIGNS;
        return whole ? ALL_STAND : end;
    }

    /** How many digits belong to an ACT of this sign; 0: there is no such ACT. */
    private static int actDigits(int sign) {
        switch (sign) {
            case 'n':
            case 'c':
                return 1;
            case 's':
            case 'm':
                return 2;
            case 'g':
                return 3;
            default:
                return 0;
        }
    }

    private int act(int p) {
        int first = text.digit(p + 1);
        switch (text.at(p)) {
            case 'n':
                fen.passDays(ruling, first, NOBODY);
                return first;
            case 's': return fen.saidBy(ruling, first, text.digit(p + 2));
            case 'g': return fen.signedFor(first, text.twoDigits(p + 2));
            case 'm': return fen.movedTo(first, text.digit(p + 2));
            case 'c': return fen.rollCalled(ruling, first);
            default: return NONE;
        }
    }

    /** One of the years' acts; on the trial, since years() asks and changes nothing. */
    private void triesDrawn(int kind) {
        if (kind == 0) {
            trial.passDay(ruling, NOBODY);
        } else if (trial.size > 0) {
            int one = plays.draw(trial.size);
            if (kind == 3) {
                trial.movedTo(one, plays.draw(PLACES));
            } else {
                trial.saidBy(ruling, one, plays.draw(trial.size));
            }
        }
    }

    /** DAYS till all these NAMES are by whose they are (the trial is then as on that day), or below 0. */
    private int daysUntilHome(int names) {
        trial.takes(fen);
        for (int d = 0; d <= FAR_DAYS; d++) {
            if ((trial.homes() & names) == names) {
                return d;
            }
            trial.passDay(ruling, NOBODY);
        }
        return -1;
    }

    private int homesAfter(int n, int silent) {
        trial.takes(fen);
        trial.passDays(ruling, n, silent);
        return Integer.bitCount(trial.homes());
    }

    private static long greatestCommon(long a, long b) {
        long greater = a;
        long lesser = b;
        // numbers up to 10^12 need fewer than 60 steps
        for (int i = 0; i < 100 && lesser != 0; i++) {
            long rest = greater % lesser;
            greater = lesser;
            lesser = rest;
        }
        return greater;
    }

    // ---- classes of its own

    /** THE TEXT: signs 0 .. 255. */
    private static final class Text {
        static final int ROOM = 80;
        static final int END = -1;
        final char[] signs = new char[ROOM];
        int length;

        boolean adds(int v) {
            if (length < 0 || length > ROOM - 4) {
                return false;
            }
            for (int shift = 24; shift >= 0; shift -= 8) {
                signs[length] = (char) (v >>> shift & 255);
                length++;
            }
            return true;
        }

        boolean cuts(int n) {
            if (n < 0 || n > length) {
                return false;
            }
            length = n;
            return true;
        }

        int at(int p) {
            return p >= 0 && p < length && p < ROOM ? signs[p] : END;
        }

        boolean isDigit(int p) {
            int sign = at(p);
            return sign >= '0' && sign <= '9';
        }

        int digit(int p) {
            return isDigit(p) ? at(p) - '0' : 0;
        }

        int twoDigits(int p) {
            return 10 * digit(p) + digit(p + 1);
        }
    }

    /** The ROW. */
    private static final class Told {
        static final int ROOM = 2 + MOST_PEOPLE;
        final long[] numbers = new long[ROOM];
        int size;

        void clears() {
            size = 0;
        }

        void adds(long number) {
            if (size >= 0 && size < ROOM) {
                numbers[size] = number;
                size++;
            }
        }

        void tells(long only) {
            size = 0;
            adds(only);
        }

        void tells(long first, long second) {
            size = 0;
            adds(first);
            adds(second);
        }
    }

    /** PEOPLE and their NAMES on one day. */
    private static final class Fen {
        static final int NUMBERS = 4 * MOST_PEOPLE + 2;
        final int[] place = new int[MOST_PEOPLE];
        final int[] voice = new int[MOST_PEOPLE];
        final int[] purse = new int[MOST_PEOPLE];
        final int[] holder = new int[MOST_PEOPLE];
        final int[] age = new int[MOST_PEOPLE];
        int size;
        int day;
        int said;

        boolean has(int one) {
            return one >= 0 && one < size && one < MOST_PEOPLE;
        }

        void adds(int itsPlace, int itsVoice, int itsPurse) {
            if (size < 0 || size >= MOST_PEOPLE) {
                return;
            }
            place[size] = itsPlace;
            voice[size] = itsVoice;
            purse[size] = itsPurse;
            holder[size] = size;
            age[size] = 0;
            size++;
        }

        void takes(Fen from) {
            System.arraycopy(from.place, 0, place, 0, MOST_PEOPLE);
            System.arraycopy(from.voice, 0, voice, 0, MOST_PEOPLE);
            System.arraycopy(from.purse, 0, purse, 0, MOST_PEOPLE);
            System.arraycopy(from.holder, 0, holder, 0, MOST_PEOPLE);
            System.arraycopy(from.age, 0, age, 0, MOST_PEOPLE);
            size = from.size;
            day = from.day;
            said = from.said;
        }

        /** Writes what undo() brings back. */
        void writes(int[] to, int at) {
            if (at < 0 || at > to.length - NUMBERS) {
                return;
            }
            System.arraycopy(place, 0, to, at, MOST_PEOPLE);
            System.arraycopy(purse, 0, to, at + MOST_PEOPLE, MOST_PEOPLE);
            System.arraycopy(holder, 0, to, at + 2 * MOST_PEOPLE, MOST_PEOPLE);
            System.arraycopy(age, 0, to, at + 3 * MOST_PEOPLE, MOST_PEOPLE);
            to[at + 4 * MOST_PEOPLE] = day;
            to[at + 4 * MOST_PEOPLE + 1] = said;
        }

        void readsBack(int[] from, int at) {
            if (at < 0 || at > from.length - NUMBERS) {
                return;
            }
            System.arraycopy(from, at, place, 0, MOST_PEOPLE);
            System.arraycopy(from, at + MOST_PEOPLE, purse, 0, MOST_PEOPLE);
            System.arraycopy(from, at + 2 * MOST_PEOPLE, holder, 0, MOST_PEOPLE);
            System.arraycopy(from, at + 3 * MOST_PEOPLE, age, 0, MOST_PEOPLE);
            day = from[at + 4 * MOST_PEOPLE];
            said = from[at + 4 * MOST_PEOPLE + 1];
        }

        int far(int a, int b) {
            return Math.abs(place[a] - place[b]);
        }

        /** NAMES that one HOLDS. */
        int held(int one) {
            int names = 0;
            for (int name = 0; name < size; name++) {
                if (holder[name] == one) {
                    names |= 1 << name;
                }
            }
            return names;
        }

        boolean can(Rule rule, int one, int name) {
            return holder[name] != one && rule.worth(this, one, name) >= 0;
        }

        /** NAMES that one CAN SAY. */
        int sayable(Rule rule, int one) {
            int names = 0;
            for (int name = 0; name < size; name++) {
                if (can(rule, one, name)) {
                    names |= 1 << name;
                }
            }
            return names;
        }

        /** Who CAN SAY a NAME. */
        int sayers(Rule rule, int name) {
            int those = 0;
            for (int one = 0; one < size; one++) {
                if (can(rule, one, name)) {
                    those |= 1 << one;
                }
            }
            return those;
        }

        int pairs(Rule rule) {
            int pairs = 0;
            for (int one = 0; one < size; one++) {
                pairs += Integer.bitCount(sayable(rule, one));
            }
            return pairs;
        }

        /** NAMES that are by whose they are. */
        int homes() {
            int names = 0;
            for (int name = 0; name < size; name++) {
                if (holder[name] == name) {
                    names |= 1 << name;
                }
            }
            return names;
        }

        int purses() {
            return sum(purse);
        }

        int sum(int[] of) {
            int sum = 0;
            for (int i = 0; i < size && i < of.length; i++) {
                sum += of[i];
            }
            return sum;
        }

        /** Who are in the ring of one, by HOLDERS; 0 if he is in none. */
        int ring(int one) {
            int members = 0;
            int at = one;
            for (int i = 0; i < size; i++) {
                members |= 1 << at;
                at = holder[at];
                if (at == one) {
                    return members;
                }
            }
            return 0;
        }

        void say(int one, int name) {
            holder[name] = one;
            age[name] = 0;
            said = Math.min(MOST_SAID, said + 1);
        }

        int saidBy(Rule rule, int one, int name) {
            if (!has(one) || !has(name)) {
                return NONE;
            }
            int was = holder[name];
            if (was == one) {
                return NOT_SO;
            }
            if (!can(rule, one, name)) {
                return NOT_ABLE;
            }
            say(one, name);
            return was;
        }

        int signedFor(int name, int n) {
            if (!has(name) || n < 1 || n > MOST_PURSE) {
                return NONE;
            }
            int signer = holder[name];
            if (signer == name) {
                return NOT_SO;
            }
            if (purse[name] < n || purse[signer] + n > MOST_PURSE) {
                return NOT_ABLE;
            }
            purse[name] -= n;
            purse[signer] += n;
            return purse[signer];
        }

        int movedTo(int one, int to) {
            if (!has(one) || to < 0 || to >= PLACES) {
                return NONE;
            }
            int distance = Math.abs(place[one] - to);
            if (distance == 0) {
                return NOT_SO;
            }
            place[one] = to;
            return distance;
        }

        int rollCalled(Rule rule, int one) {
            if (!has(one)) {
                return NONE;
            }
            int names = 0;
            for (int name = 0; name < size; name++) {
                if (can(rule, one, name)) {
                    say(one, name);
                    names++;
                }
            }
            return names > 0 ? names : NOT_SO;
        }

        void passDays(Rule rule, int n, int silent) {
            for (int i = 0; i < n; i++) {
                passDay(rule, silent);
            }
        }

        void passDay(Rule rule, int silent) {
            for (int one = 0; one < size; one++) {
                if (one != silent && can(rule, one, one)) {
                    say(one, one);
                }
            }
            for (int name = 0; name < size; name++) {
                int taker = holder[name];
                if (taker != name && purse[name] > 0 && purse[taker] < MOST_PURSE) {
                    purse[name]--;
                    purse[taker]++;
                }
            }
            for (int name = 0; name < size; name++) {
                age[name] = Math.min(MOST_AGE, age[name] + 1);
            }
            day++;
        }
    }

    /** A rule as steps over a stack: a number below THING stands for itself, others are THING and a sign. */
    private static final class Rule {
        static final int THING = 1000;
        static final int NEGATE = '~';
        final int[] steps = new int[RULE_SIGNS];
        // every step puts at most one number, so that there is room for all
        final int[] stack = new int[RULE_SIGNS];
        int size;

        Rule() {
            becomesNone();
        }

        void becomesNone() {
            size = 0;
            puts(THING + 'v');
            puts(THING + 'f');
            puts(THING + '-');
        }

        void puts(int step) {
            if (size >= 0 && size < RULE_SIGNS) {
                steps[size] = step;
                size++;
            }
        }

        int worth(Fen fen, int one, int name) {
            int top = 0;
            for (int i = 0; i < size && i < RULE_SIGNS; i++) {
                int sign = steps[i] - THING;
                // letters stand behind all signs that join
                if (sign < 0 || sign >= 'a' && sign != NEGATE) {
                    if (top < RULE_SIGNS) {
                        stack[top] = sign < 0 ? steps[i] : thing(sign, fen, one, name);
                        top++;
                    }
                } else if (sign == NEGATE) {
                    if (top >= 1) {
                        stack[top - 1] = -stack[top - 1];
                    }
                } else if (top >= 2) {
                    top--;
                    stack[top - 1] = joined(sign, stack[top - 1], stack[top]);
                }
            }
            return stack[0];
        }

        private static int joined(int sign, int a, int b) {
            switch (sign) {
                case '<': return a < b ? 1 : 0;
                case '>': return a > b ? 1 : 0;
                case '=': return a == b ? 1 : 0;
                case '+': return a + b;
                case '-': return a - b;
                case '*': return a * b;
                default: return b == 0 ? 0 : a / b;
            }
        }

        private static int thing(int sign, Fen fen, int one, int name) {
            int holder = fen.holder[name];
            switch (sign) {
                case 'v': return fen.voice[one];
                case 'u': return fen.voice[holder];
                case 'f': return Math.abs(fen.place[one] - fen.place[holder]);
                case 'h': return Integer.bitCount(fen.held(one));
                case 'a': return fen.age[name];
                case 'o': return one == name ? 1 : 0;
                default: return fen.day % 7;
            }
        }
    }

    /** Reads a rule's text from the left; where it stops is the sign that can't stand. */
    private static final class RuleReader {
        static final int DEEPEST = 4;
        static final int NUMBER_DIGITS = 3;
        private Text text;
        private Rule rule;
        private int at;

        /** The place of the first sign that can't stand in a rule, or ALL_STAND: then 'into' is it. */
        int reads(Text from, Rule into) {
            if (from.length == 0) {
                into.becomesNone();
                return ALL_STAND;
            }
            text = from;
            rule = into;
            at = 0;
            into.size = 0;
            boolean whole = readsComparison(0);
            return whole && at == from.length ? ALL_STAND : at;
        }

        private int next() {
            return at < RULE_SIGNS ? text.at(at) : Text.END;
        }

        private boolean readsComparison(int depth) {
            if (!readsSum(depth)) {
                return false;
            }
            int sign = next();
            if (sign != '<' && sign != '>' && sign != '=') {
                return true;
            }
            at++;
            if (!readsSum(depth)) {
                return false;
            }
            rule.puts(Rule.THING + sign);
            return true;
        }

        private boolean readsSum(int depth) {
            boolean reads = readsProduct(depth);
            for (int i = 0; i < RULE_SIGNS && reads; i++) {
                int sign = next();
                if (sign != '+' && sign != '-') {
                    return true;
                }
                at++;
                reads = readsProduct(depth);
                rule.puts(Rule.THING + sign);
            }
            return reads;
        }

        private boolean readsProduct(int depth) {
            boolean reads = readsSigned(depth);
            for (int i = 0; i < RULE_SIGNS && reads; i++) {
                int sign = next();
                if (sign != '*' && sign != '/') {
                    return true;
                }
                at++;
                reads = readsSigned(depth);
                rule.puts(Rule.THING + sign);
            }
            return reads;
        }

        private boolean readsSigned(int depth) {
            boolean negative = false;
            for (int i = 0; i < RULE_SIGNS && next() == '-'; i++) {
                negative = !negative;
                at++;
            }
            if (!readsThing(depth)) {
                return false;
            }
            if (negative) {
                rule.puts(Rule.THING + Rule.NEGATE);
            }
            return true;
        }

        private boolean readsThing(int depth) {
            int sign = next();
            switch (sign) {
                case 'v':
                case 'u':
                case 'f':
                case 'h':
                case 'a':
                case 'o':
                case 'n':
                    rule.puts(Rule.THING + sign);
                    at++;
                    return true;
                case '(':
                    return readsBracket(depth);
                default:
                    return readsNumber();
            }
        }

        private boolean readsBracket(int depth) {
            if (depth >= DEEPEST) {
                return false;
            }
            at++;
            if (!readsComparison(depth + 1) || next() != ')') {
                return false;
            }
            at++;
            return true;
        }

        private boolean readsNumber() {
            int number = 0;
            int digits = 0;
            for (int i = 0; i < NUMBER_DIGITS && next() >= '0' && next() <= '9'; i++) {
                number = 10 * number + next() - '0';
                at++;
                digits++;
            }
            rule.puts(number);
            return digits > 0;
        }
    }

    /** Fens as they were, in slots of one row: those that can be undone, and behind them those that are kept. */
    private static final class Past {
        static final int MOST = 12;
        // one slot more than can be undone, so that a mark that is not kept costs no older one
        static final int SLOTS = MOST + 1;
        static final int SHELVES = 2;
        private final int[] slots = new int[(SLOTS + SHELVES) * Fen.NUMBERS];
        private int free;
        private int shelved;
        int size;

        void marks(Fen fen) {
            fen.writes(slots, free * Fen.NUMBERS);
        }

        void keepMarked() {
            free = (free + 1) % SLOTS;
            size = Math.min(MOST, size + 1);
        }

        boolean bringsBack(Fen fen) {
            if (size <= 0) {
                return false;
            }
            size--;
            free = (free + SLOTS - 1) % SLOTS;
            fen.readsBack(slots, free * Fen.NUMBERS);
            return true;
        }

        boolean shelves(int i, Fen fen) {
            if (i < 0 || i >= SHELVES) {
                return false;
            }
            fen.writes(slots, (SLOTS + i) * Fen.NUMBERS);
            shelved |= 1 << i;
            return true;
        }

        boolean unshelves(int i, Fen fen) {
            if (i < 0 || i >= SHELVES || (shelved >> i & 1) == 0) {
                return false;
            }
            fen.readsBack(slots, (SLOTS + i) * Fen.NUMBERS);
            size = 0;
            return true;
        }

        /** PEOPLE came: no fen of before is of as many. */
        void forgetsAll() {
            size = 0;
            shelved = 0;
        }
    }

    /** Ways of sayings: by which a NAME comes to one, and by which the most come home. */
    private static final class Ways {
        static final int MOST_SAYINGS = 4;
        static final int MOST_TURNS = 6;
        static final int TURN_SETS = 1 << MOST_TURNS;
        private final int[] from = new int[MOST_PEOPLE];
        private final int[] queue = new int[MOST_PEOPLE];
        private int queued;
        private int met;
        private final int[] way = new int[MOST_SAYINGS];
        private final int[] those = new int[MOST_TURNS];
        private final int[] turn = new int[MOST_TURNS];
        /** By who had their turns: whose NAMES had come home by them (bits of sets) when it was tried from there. */
        private final long[] tried = new long[TURN_SETS];
        final int[] best = new int[MOST_TURNS];
        int turns;
        private int most;
        private int homesAtFirst;
        private Fen fen;
        private Rule rule;

        int sayer(int i) {
            return i >= 0 && i < MOST_SAYINGS ? way[i] : NOBODY;
        }

        /**
         * The fewest sayings by which one HOLDS a NAME, or below 0. Once it is said, all hangs on its HOLDER
         * alone: so each is met once, and by the least row, as those met stand in the order of theirs.
         */
        int toHold(Fen trial, Rule by, int name, int one) {
            if (trial.holder[name] == one) {
                return 0;
            }
            met = 0;
            queued = 0;
            meets(trial.sayers(by, name), NOBODY);
            trial.age[name] = 0;
            int begins = 0;
            for (int sayings = 1; sayings <= MOST_SAYINGS; sayings++) {
                if ((met >> one & 1) == 1) {
                    return traces(one, sayings);
                }
                int ends = queued;
                for (int i = begins; i < ends; i++) {
                    trial.holder[name] = queue[i];
                    meets(trial.sayers(by, name), queue[i]);
                }
                begins = ends;
            }
            return -1;
        }

        private void meets(int those, int before) {
            for (int one = 0; one < MOST_PEOPLE; one++) {
                if (((those & ~met) >> one & 1) == 1 && queued < MOST_PEOPLE) {
                    met |= 1 << one;
                    from[one] = before;
                    queue[queued] = one;
                    queued++;
                }
            }
        }

        private int traces(int one, int sayings) {
            int at = one;
            for (int i = sayings - 1; i >= 0 && at >= 0; i--) {
                way[i] = at;
                at = from[at];
            }
            return sayings;
        }

        /** The most NAMES that come home by turns of those whose are not; 'best' is the least such order. */
        int sayBack(Fen trial, Rule by) {
            fen = trial;
            rule = by;
            turns = 0;
            for (int one = 0; one < fen.size && turns < MOST_TURNS; one++) {
                if (fen.holder[one] != one) {
                    those[turns] = one;
                    turns++;
                }
            }
            for (int had = 0; had < TURN_SETS; had++) {
                tried[had] = 0;
            }
            homesAtFirst = Integer.bitCount(fen.homes());
            most = -1;
            takesTurn(0, 0, 0);
            return most;
        }

        /** 'had': who had their turns; 'came': whose NAMES came home by them. */
        private void takesTurn(int depth, int had, int came) {
            int homes = homesAtFirst + Integer.bitCount(came);
            // orders come from the least on, so that one that is but as good is of no use
            boolean useless = homes + turns - depth <= most || (tried[had] >> came & 1) == 1;
            if (useless) {
                return;
            }
            tried[had] |= 1L << came;
            if (depth >= turns) {
                most = homes;
                System.arraycopy(turn, 0, best, 0, MOST_TURNS);
                return;
            }
            for (int i = 0; i < turns; i++) {
                if ((had >> i & 1) == 0) {
                    turn[depth] = those[i];
                    saysOwn(i, depth, had, came);
                }
            }
        }

        private void saysOwn(int i, int depth, int had, int came) {
            int one = those[i];
            if (!fen.can(rule, one, one)) {
                takesTurn(depth + 1, had | 1 << i, came);
                return;
            }
            int holder = fen.holder[one];
            int age = fen.age[one];
            fen.holder[one] = one;
            fen.age[one] = 0;
            takesTurn(depth + 1, had | 1 << i, came | 1 << i);
            fen.holder[one] = holder;
            fen.age[one] = age;
        }
    }

    /** Who stands where along the dyke. */
    private static final class Dyke {
        static final int SETS = 1 << MOST_PEOPLE;
        static final int TOO_MUCH = 1000;
        final int[] row = new int[MOST_PEOPLE];
        /** By the sets of those who HOLD one already: the least that the other NAMES cost. */
        private final int[] least = new int[SETS];
        /** By places in line: the longest rich row that begins there. */
        final int[] runs = new int[MOST_PEOPLE];

        int sharesMouths(Fen fen) {
            int all = (1 << fen.size) - 1;
            least[all] = 0;
            for (int taken = all - 1; taken >= 0; taken--) {
                least[taken] = TOO_MUCH;
                int name = Integer.bitCount(taken);
                for (int one = 0; one < fen.size; one++) {
                    least[taken] = Math.min(least[taken], costs(fen, name, one, taken));
                }
            }
            int taken = 0;
            for (int name = 0; name < fen.size; name++) {
                row[name] = cheapest(fen, name, taken);
                taken |= 1 << row[name];
            }
            return least[0];
        }

        private int costs(Fen fen, int name, int one, int taken) {
            boolean free = one != name && (taken >> one & 1) == 0;
            return free ? fen.far(one, name) + least[taken | 1 << one] : TOO_MUCH;
        }

        private int cheapest(Fen fen, int name, int taken) {
            for (int one = 0; one < fen.size; one++) {
                if (costs(fen, name, one, taken) == least[taken]) {
                    return one;
                }
            }
            return 0;
        }

        int fewestCriers(Fen fen, int v) {
            int all = (1 << fen.size) - 1;
            for (int one = 0; one < fen.size; one++) {
                row[one] = hearers(fen, one, v);
            }
            int best = all;
            for (int criers = 0; criers < all; criers++) {
                if (Integer.bitCount(criers) < Integer.bitCount(best) && heardBy(fen.size, criers) == all) {
                    best = criers;
                }
            }
            return best;
        }

        private static int hearers(Fen fen, int crier, int v) {
            int those = 0;
            for (int one = 0; one < fen.size; one++) {
                if (fen.far(one, crier) <= v) {
                    those |= 1 << one;
                }
            }
            return those;
        }

        private int heardBy(int size, int criers) {
            int those = 0;
            for (int one = 0; one < size; one++) {
                if ((criers >> one & 1) == 1) {
                    those |= row[one];
                }
            }
            return those;
        }

        void linesUp(Fen fen) {
            int lined = 0;
            for (int place = 0; place < PLACES; place++) {
                for (int one = 0; one < fen.size; one++) {
                    if (fen.place[one] == place && lined < MOST_PEOPLE) {
                        row[lined] = one;
                        lined++;
                    }
                }
            }
        }

        int longestFrom(Fen fen) {
            int longest = 0;
            for (int i = fen.size - 1; i >= 0; i--) {
                runs[i] = 1;
                for (int j = i + 1; j < fen.size; j++) {
                    if (fen.purse[row[j]] > fen.purse[row[i]]) {
                        runs[i] = Math.max(runs[i], runs[j] + 1);
                    }
                }
                longest = Math.max(longest, runs[i]);
            }
            return longest;
        }
    }

    /** What was heard of a NAME. */
    private static final class Ear {
        static final int HOLDER = 0;
        static final int AGED = 1;
        static final int OWNS = 2;
        static final int AT = 3;
        static final int CAN_SAY = 4;
        /** HOLDER, AT and CAN_SAY. */
        static final int[] ASKED = {0, 3, 4};
        static final int MOST = 12;
        private final int[] whats = new int[MOST];
        private final int[] of = new int[MOST];
        int size;

        /** How many values may be heard, from 0 on. */
        static int values(int what) {
            switch (what) {
                case HOLDER: return MOST_PEOPLE;
                case AGED: return MOST_AGE + 1;
                case OWNS: return MOST_PURSE + 1;
                case AT: return PLACES;
                case CAN_SAY: return MOST_PEOPLE;
                default: return 0;
            }
        }

        boolean hears(int what, int v) {
            if (v < 0 || v >= values(what) || size < 0 || size >= MOST) {
                return false;
            }
            whats[size] = what;
            of[size] = v;
            size++;
            return true;
        }

        private static boolean isSo(Fen fen, Rule rule, int name, int what, int v) {
            switch (what) {
                case HOLDER: return fen.holder[name] == v;
                case AGED: return fen.age[name] >= v;
                case OWNS: return fen.purse[name] >= v;
                case AT: return fen.place[fen.holder[name]] == v;
                case CAN_SAY: return fen.has(v) && fen.can(rule, v, name);
                default: return false;
            }
        }

        int fitting(Fen fen, Rule rule) {
            int names = 0;
            for (int name = 0; name < fen.size; name++) {
                boolean fits = true;
                for (int i = 0; i < size && i < MOST && fits; i++) {
                    fits = isSo(fen, rule, name, whats[i], of[i]);
                }
                if (fits) {
                    names |= 1 << name;
                }
            }
            return names;
        }

        /** How many of these NAMES are left at most, if it is asked whether it is so. */
        int mostLeft(Fen fen, Rule rule, int names, int what, int v) {
            int so = 0;
            for (int name = 0; name < fen.size; name++) {
                if ((names >> name & 1) == 1 && isSo(fen, rule, name, what, v)) {
                    so++;
                }
            }
            return Math.max(so, Integer.bitCount(names) - so);
        }
    }

    /**
     * What was seen, and the laws that fit it. Of each pair a, b (told as FACTORS times a and b) those c fit
     * that are neither below 'low' nor above 'high': whoever is heard by a law is heard by any of a lesser c.
     */
    private static final class Seen {
        static final int FACTORS = 4;
        static final int PAIRS = FACTORS * FACTORS;
        static final int MOST_C = 9;
        static final int MOST = 10;
        private final int[] voice = new int[MOST];
        private final int[] far = new int[MOST];
        private final int[] could = new int[MOST];
        final int[] low = new int[PAIRS];
        private final int[] high = new int[PAIRS];
        int size;

        boolean sees(int v, int f, int is) {
            if (v < 0 || v > 9 || f < 0 || f > 9 || is < 0 || is > 1 || size < 0 || size >= MOST) {
                return false;
            }
            voice[size] = v;
            far[size] = f;
            could[size] = is;
            size++;
            return true;
        }

        private static int reach(int pair, int v, int f) {
            return pair / FACTORS * v - pair % FACTORS * f;
        }

        int fitLaws() {
            int laws = 0;
            for (int pair = 0; pair < PAIRS; pair++) {
                low[pair] = 0;
                high[pair] = MOST_C;
                for (int i = 0; i < size && i < MOST; i++) {
                    int reach = reach(pair, voice[i], far[i]);
                    if (could[i] == 1) {
                        high[pair] = Math.min(high[pair], reach);
                    } else {
                        low[pair] = Math.max(low[pair], reach + 1);
                    }
                }
                laws += Math.max(0, high[pair] - low[pair] + 1);
            }
            return laws;
        }

        int leastPair() {
            for (int pair = 0; pair < PAIRS; pair++) {
                if (low[pair] <= high[pair]) {
                    return pair;
                }
            }
            return -1;
        }

        int lawsThatHear(int v, int f) {
            int laws = 0;
            for (int pair = 0; pair < PAIRS; pair++) {
                int highest = Math.min(high[pair], reach(pair, v, f));
                laws += Math.max(0, highest - low[pair] + 1);
            }
            return laws;
        }
    }

    /** Walks, silences by turns, rests and draws: what hangs on no PEOPLE. */
    private static final class Plays {
        static final int MOST_BREATHS = 20;
        static final int SAYINGS = 10;
        private static final int QUIET_SAYINGS = 6;
        private final long[] ways = new long[PLACES];
        private final long[] next = new long[PLACES];
        /** By the first heap: the second heaps (bits) with which he whose turn it is wins. */
        private final int[] won = new int[MOST_BREATHS + 1];
        private boolean hushReady;
        private final int[] bestAgainst = new int[SAYINGS];
        int lot;

        /** Of 10 to the n ways those that end at y. */
        long walked(int x, int n, int p, int y) {
            for (int place = 0; place < PLACES; place++) {
                ways[place] = place == x ? 1 : 0;
            }
            for (int i = 0; i < n; i++) {
                for (int place = 0; place < PLACES; place++) {
                    next[place] = 0;
                }
                for (int place = 0; place < PLACES; place++) {
                    next[Math.min(PLACES - 1, place + 1)] += ways[place] * p;
                    next[Math.max(0, place - 1)] += ways[place] * (10 - p);
                }
                System.arraycopy(next, 0, ways, 0, PLACES);
            }
            return y >= 0 && y < PLACES ? ways[y] : 0;
        }

        void readiesHush() {
            if (hushReady) {
                return;
            }
            for (int a = 0; a <= MOST_BREATHS; a++) {
                for (int b = 0; b <= MOST_BREATHS; b++) {
                    boolean stuck = a == 0 || b == 0;
                    if (stuck || winningTake(a, b) > 0 || winningTake(b, a) > 0) {
                        won[a] |= 1 << b;
                        won[b] |= 1 << a;
                    }
                }
            }
            hushReady = true;
        }

        boolean wins(int a, int b) {
            return (won[a] >> b & 1) == 1;
        }

        /** The least that wins, if it is taken from the second heap; 0: nothing does. */
        int winningTake(int a, int b) {
            int most = Math.min(a, b);
            for (int taken = 1; taken <= most; taken++) {
                if (!wins(a, b - taken)) {
                    return taken;
                }
            }
            return 0;
        }

        private static int gain(int his, int others, int worth) {
            int above = Math.max(0, his + others - QUIET_SAYINGS);
            return (his > others ? worth : 0) - 2 * above - his;
        }

        void readiesRests(int worth) {
            for (int y = 0; y < SAYINGS; y++) {
                bestAgainst[y] = gain(0, y, worth);
                for (int x = 1; x < SAYINGS; x++) {
                    bestAgainst[y] = Math.max(bestAgainst[y], gain(x, y, worth));
                }
            }
        }

        boolean isRest(int x, int y, int worth) {
            return gain(x, y, worth) == bestAgainst[y] && gain(y, x, worth) == bestAgainst[x];
        }

        int draw(int n) {
            lot = lot * 1103515245 + 12345;
            return n > 0 ? (lot >>> 16) % n : 0;
        }
    }
}
