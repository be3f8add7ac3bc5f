import java.lang.reflect.InvocationTargetException;
import java.lang.reflect.Method;
import java.util.HashMap;
import java.util.Map;
import java.util.NoSuchElementException;
import java.util.Random;

/** Runs drawn by fixed seeds, each call held against Plain: its answer, the ROW, all counts and all of PEOPLE. */
public final class AgainstPlainTest {
    private static final int RUNS = 2000;
    /** An object is used for at most 512 calls: the last look at all takes some 130 of them. */
    private static final int CALLS = 360;
    private static final int HALF = 180;
    private static final String[] RULES = {"", "9", "0-1", "v-f", "u*2-f*3+h-a-o*9+n", "v-f-h", "o*9+v-f", "3-a",
        "(v>u)+(f<3)-1", "v/h-f/2", "a<3", "--v-f", "(((v-f)*2)-(h))-1", "999*999*999*999-1", "o-1", "f-2",
        "n-3", "v-f+o*4-a/2", "h=0", "-(h>1)", "v*(f=0)-1", "9/(v-v)-f", "-o", "a-1+o", "(f=1)+(f=2)-1", "1-(f>1)-a",
        "0-h", "1-h", "h-1", "-(h>1)-(h<1)"};
    private static final String RULE_SIGNS = "vufhaon0123456789()+-*/<>=";
    private static final String[] CALLED = {"one", "name", "sheet", "says", "signs", "moves", "calls", "days", "undo",
        "brings", "later", "home", "poor", "leads", "rings", "robs", "order", "silences", "goes", "peace", "wed", "loud",
        "mouths", "criers", "line", "rich", "heard", "forget", "fits", "asks", "saw", "denies", "laws", "tries", "walks",
        "hush", "rests", "years", "keep", "again", "people", "rule", "week", "law",
        "says", "says", "says", "moves", "calls", "days", "signs", "brings", "order", "silences"};
    private static final long THREW = Long.MIN_VALUE;
    private static final Map<String, Method> OF_CLASS = methods(NamesInMouths.class);
    private static final Map<String, Method> OF_PLAIN = methods(Plain.class);
    private final Random draw;
    private final NamesInMouths names = new NamesInMouths();
    private final Plain plain = new Plain();
    private int calls = 0;

    private AgainstPlainTest(long seed) {
        draw = new Random(seed);
    }

    private static Map<String, Method> methods(Class<?> of) {
        Map<String, Method> methods = new HashMap<>();
        for (Method m : of.getDeclaredMethods()) {
            if (!java.lang.reflect.Modifier.isPrivate(m.getModifiers())) {
                methods.put(m.getName(), m);
            }
        }
        return methods;
    }

    private static long answer(Object of, Method method, Object[] args) {
        try {
            Object got = method.invoke(of, args);
            return got instanceof Boolean so ? so ? 1 : 0 : ((Number) got).longValue();
        } catch (InvocationTargetException e) {
            if (e.getCause() instanceof NoSuchElementException) {
                return THREW;
            }
            throw new IllegalStateException(method + " threw", e.getCause());
        } catch (IllegalAccessException e) {
            throw new IllegalStateException(e);
        }
    }

    private void both(String call, int... args) {
        Object[] given = new Object[OF_CLASS.get(call).getParameterCount()];
        for (int i = 0; i < given.length; i++) {
            given[i] = args[i];
        }
        calls++;
        long got = answer(names, OF_CLASS.get(call), given);
        long due = answer(plain, OF_PLAIN.get(call), given);
        if (got != due) {
            System.out.println(call + java.util.Arrays.toString(given));
        }
        Due.is(call, got, due);
    }

    private void bothText(String text) {
        both("end", 0);
        for (int i = 0; i < text.length(); i += 4) {
            int four = 0;
            for (int j = i; j < i + 4; j++) {
                four = four << 8 | (j < text.length() ? text.charAt(j) : 0);
            }
            both("sign", four);
        }
        both("end", text.length());
    }

    private void bothTold() {
        both("count", 10);
        for (int i = 0; i <= plain.count(10); i++) {
            both("row", i);
        }
    }

    private void bothState() {
        for (int what = -1; what <= 12; what++) {
            both("count", what);
        }
        for (int one = 0; one < plain.count(0); one++) {
            for (int what = 0; what <= 4; what++) {
                both("one", one, what);
                both("name", one, what);
            }
        }
    }

    /** Mostly small, now and then at an edge or beside all. */
    private int number() {
        return switch (draw.nextInt(12)) {
            case 0 -> -1 + draw.nextInt(12);
            case 1 -> draw.nextInt(120);
            case 2 -> new int[] {Integer.MIN_VALUE, Integer.MAX_VALUE, -1, 99, 100, 60, 61, 30, 31, 20, 21}[draw.nextInt(11)];
            case 3 -> draw.nextInt(14);
            default -> draw.nextInt(7);
        };
    }

    private String digits(int n) {
        StringBuilder s = new StringBuilder();
        for (int i = 0; i < n; i++) {
            s.append((char) ('0' + draw.nextInt(10)));
        }
        return s.toString();
    }

    private String peopleText() {
        StringBuilder s = new StringBuilder();
        int lines = draw.nextInt(9);
        for (int i = 0; i < lines; i++) {
            s.append(i == 0 ? "" : ";").append(digits(4));
        }
        return s.toString();
    }

    private String weekText() {
        StringBuilder s = new StringBuilder();
        int acts = draw.nextInt(draw.nextInt(4) == 0 ? 25 : 6);
        for (int i = 0; i < acts; i++) {
            int one = draw.nextInt(4);
            switch (draw.nextInt(5)) {
                case 0 -> s.append('n').append(draw.nextInt(10));
                case 1 -> s.append('s').append(one).append(draw.nextInt(4));
                case 2 -> s.append('g').append(one).append(draw.nextInt(2)).append(draw.nextInt(10));
                case 3 -> s.append('m').append(one).append(draw.nextInt(10));
                default -> s.append('c').append(one);
            }
        }
        return s.toString();
    }

    private String ruleText() {
        if (draw.nextInt(3) > 0) {
            return RULES[draw.nextInt(RULES.length)];
        }
        return draw.nextBoolean() ? expression(3) : noise(draw.nextInt(44), RULE_SIGNS);
    }

    private String expression(int depth) {
        if (depth == 0 || draw.nextInt(5) == 0) {
            return draw.nextInt(3) == 0 ? digits(1 + draw.nextInt(3)) : "" + "vufhaon".charAt(draw.nextInt(7));
        }
        return switch (draw.nextInt(5)) {
            case 0 -> "(" + expression(depth - 1) + ")";
            case 1 -> "-" + expression(depth - 1);
            default -> expression(depth - 1) + "+-*/+-*/<>=".charAt(draw.nextInt(11)) + expression(depth - 1);
        };
    }

    private String noise(int length, String signs) {
        StringBuilder s = new StringBuilder();
        for (int i = 0; i < length; i++) {
            s.append(signs.charAt(draw.nextInt(signs.length())));
        }
        return s.toString();
    }

    /** Now and then with one sign changed, put in or left out. */
    private String spoilt(String text) {
        if (draw.nextInt(4) > 0 || text.isEmpty()) {
            return text.length() > 80 ? text.substring(0, 80) : text;
        }
        int at = draw.nextInt(text.length());
        String sign = draw.nextInt(3) == 0 ? "" : "" + (";x ns0(9-" + (char) 255 + (char) 0).charAt(draw.nextInt(11));
        String spoilt = text.substring(0, at) + sign + text.substring(at + draw.nextInt(2));
        return spoilt.length() > 80 ? spoilt.substring(0, 80) : spoilt;
    }

    private void bothRead(String call, String text) {
        bothText(text);
        both(call);
    }

    /** Half of the runs begin with all NAMES said about. */
    private void begins() {
        bothRead("people", peopleText());
        if (draw.nextBoolean()) {
            bothRead("rule", "9");
            for (int i = 0; i < 30; i++) {
                both(draw.nextInt(3) == 0 ? "moves" : "says", draw.nextInt(7), draw.nextInt(7));
            }
            both("days", draw.nextInt(3));
            bothRead("rule", ruleText());
        }
    }

    private void drawsCall() {
        String call = CALLED[draw.nextInt(CALLED.length)];
        switch (call) {
            case "people" -> bothRead(call, spoilt(peopleText()));
            case "week" -> bothRead(call, spoilt(weekText()));
            case "rule", "law" -> bothRead(call, spoilt(ruleText()));
            case "years" -> both(call, draw.nextInt(), number());
            default -> both(call, number(), number(), number(), number());
        }
        bothTold();
    }

    private void run() {
        begins();
        while (calls < HALF) {
            drawsCall();
        }
        bothState();
        while (calls < CALLS) {
            drawsCall();
        }
        bothState();
        Due.is("calls of one object are 512 at most", calls <= 512, true);
    }

    public static void main(String[] args) {
        for (int seed = 0; seed < RUNS; seed++) {
            new AgainstPlainTest(seed).run();
        }
        Due.ends();
    }
}
