import java.lang.reflect.Method;
import java.util.ArrayList;
import java.util.Arrays;
import java.util.Comparator;
import java.util.List;
import java.util.Random;

/** Long runs of calls by chance (always the same ones), compared with the Oracle answer by answer. */
public final class OracleTest {
    private static final List<Method> FACE = new ArrayList<>();
    /** Calls that spoil what others need. */
    private static final List<String> RARE = List.of("back", "end", "open", "force", "search", "roll");
    private static int wrong = 0;
    private static long calls = 0;

    private final Random random;
    private final FeignedSuit suit = new FeignedSuit();
    private final Oracle oracle = new Oracle();
    private final List<String> log = new ArrayList<>();
    private final int letters;
    private final int spread;
    private final int lenders;
    private final boolean wide;
    private int left = 512;
    private boolean bad = false;

    private OracleTest(long seed, boolean wide) {
        this.random = new Random(seed);
        this.wide = wide;
        this.letters = wide ? 8 + random.nextInt(6) : 2 + random.nextInt(7);
        this.lenders = 1 + random.nextInt(random.nextInt(8) == 0 ? 16 : 6);
        this.spread = random.nextInt(4) == 0 ? 24 : letters;
    }

    public static void main(String[] args) {
        for (Method m : FeignedSuit.class.getDeclaredMethods()) {
            if (java.lang.reflect.Modifier.isPublic(m.getModifiers())) {
                FACE.add(m);
            }
        }
        FACE.sort(Comparator.comparing(Method::getName));
        int runs = args.length > 0 ? Integer.parseInt(args[0]) : 400;
        long first = args.length > 1 ? Long.parseLong(args[1]) : 0;
        for (long seed = first; seed < first + runs && wrong < 5; seed++) {
            new OracleTest(seed, seed % 8 == 7).run(seed);
        }
        for (long seed = first; seed < first + runs && wrong < 5; seed++) {
            new OracleTest(seed + 1_000_000, false).readTexts(seed);
        }
        System.out.println(calls + " calls compared, " + wrong + " wrong");
        if (wrong != 0) {
            System.exit(1);
        }
    }

    private void run(long seed) {
        int moves = 1 + random.nextInt(wide ? 20 : 12);
        tell(1, gift());
        tell(2, random.nextInt(4) == 0 ? test(0) : hope());
        for (int i = 0; i < moves; i++) {
            tell(0, wide && random.nextInt(4) != 0 ? wideMove() : move());
        }
        for (int i = 0; wide && i < letters; i++) {
            tell(0, "give " + (char) ('A' + i));
        }
        for (int i = random.nextInt(4); i > 0; i--) {
            tell(1 + random.nextInt(3), null);
        }
        for (int i = random.nextInt(wide ? 3 : 5); i > 0; i--) {
            tell(3, test(0));
        }
        while (left > 0 && !bad) {
            anyCall();
        }
        report(seed);
    }

    private void readTexts(long seed) {
        while (left > 30 && !bad) {
            int sort = random.nextInt(4);
            String text = random.nextInt(3) == 0 ? noise() : spoilt(textOf(sort));
            tell(sort, text);
            if (random.nextInt(6) == 0) {
                call("back", call("mark", 0) < 0 ? 0 : random.nextInt(2));
            }
            call("wished", random.nextInt(16), state());
            call("turned", random.nextInt(40), state());
        }
        report(seed + 1_000_000);
    }

    private void report(long seed) {
        if (bad) {
            wrong++;
            System.out.println("run " + seed + ":");
            for (String line : log) {
                System.out.println("  " + line);
            }
        }
    }

    private long call(String name, int... args) {
        if (left <= 0 || bad) {
            return -1;
        }
        left--;
        calls++;
        for (Method m : FACE) {
            if (m.getName().equals(name)) {
                String got = answer(m, suit, args);
                String want = "?";
                try {
                    want = answer(Oracle.class.getMethod(name, m.getParameterTypes()), oracle, args);
                } catch (NoSuchMethodException e) {
                    bad = true;
                }
                log.add(name + Arrays.toString(args) + " answered " + got + ", due is " + want);
                bad = bad || !got.equals(want);
                return bad ? -1 : number(got);
            }
        }
        throw new IllegalStateException(name);
    }

    private static long number(String answer) {
        return answer.equals("true") ? 1 : answer.equals("false") ? 0 : Long.parseLong(answer);
    }

    private static String answer(Method m, Object on, int[] args) {
        Object[] boxed = new Object[args.length];
        for (int i = 0; i < args.length; i++) {
            boxed[i] = args[i];
        }
        try {
            return String.valueOf(m.invoke(on, boxed));
        } catch (ReflectiveOperationException e) {
            return String.valueOf(e.getCause());
        }
    }

    private void tell(int sort, String told) {
        String text = told == null ? textOf(sort) : told;
        if (text.length() > 400) {
            text = text.substring(0, 400);
        }
        call("end", 0);
        for (int i = 0; i < text.length(); i += 20) {
            call("feed", Told.number(text, i), Told.number(text, i + 4), Told.number(text, i + 8),
                    Told.number(text, i + 12), Told.number(text, i + 16));
        }
        call("end", text.length());
        log.add("-- " + text);
        call("text", sort);
    }

    private void anyCall() {
        Method m = FACE.get(random.nextInt(FACE.size()));
        String name = m.getName();
        if (name.equals("feed") || name.equals("text")) {
            if (random.nextInt(3) == 0) {
                tell(random.nextInt(4), null);
            }
            return;
        }
        if (RARE.contains(name) && random.nextInt(8) != 0) {
            return;
        }
        if (wide && (name.equals("words") || name.equals("fewest") || name.equals("last") || name.equals("keys"))
                && random.nextInt(6) != 0) {
            return;
        }
        if (random.nextInt(25) == 0) {
            int[] args = new int[m.getParameterCount()];
            for (int i = 0; i < args.length; i++) {
                args[i] = odd();
            }
            call(name, args);
            return;
        }
        call(name, args(name));
    }

    private int[] args(String name) {
        int what = random.nextInt(2);
        switch (name) {
            case "end": return a(random.nextInt(30));
            case "open": return a(some(0), year(), year());
            case "force": return a(random.nextInt(1 << Math.min(8, Math.max(1, oracle.count(3)))));
            case "holds": return a(random.nextInt(letters), random.nextInt(17) - 1);
            case "first": return a(some(1));
            case "wished": return a(some(2), state());
            case "may": return a(some(1), year(), some(0), state());
            case "after":
            case "turned": return a(some(0), state());
            case "search": return a(some(1), some(2), year(), random.nextInt(2) == 0 ? -1 : state());
            case "go": return a(wide ? 1 + random.nextInt(4000) : 1 + random.nextInt(8));
            case "sought": return a(random.nextInt(4));
            case "row": return a(random.nextInt(6));
            case "met": return a(random.nextInt(wide ? 4100 : 20));
            case "reached": return a(some(1), some(2), year());
            case "fewest":
            case "least": return a(some(1), some(2), year(), what);
            case "safe": return a(some(1), some(2), year(), random.nextInt(65536) | random.nextInt(65536));
            case "keys": return a(some(1), some(2), year());
            case "last": {
                int from = year();
                return a(some(1), some(2), from, from + random.nextInt(wide ? 4 : 101));
            }
            case "roll": return a(some(1), year());
            case "enter": {
                int roll = some(4);
                return a(roll, fitting(roll));
            }
            case "judged":
            case "claims":
            case "costs": return a(some(4), what);
            case "feigned": return a(some(4));
            case "risk": return a(some(4), random.nextInt(5));
            case "words": {
                int rolls = oracle.count(4) == 0 ? 0 : 1 << random.nextInt(oracle.count(4));
                return a(some(1), some(2), year(), random.nextInt(2) * rolls, what);
            }
            case "mark":
            case "back": return a(random.nextInt(4));
            default: return a(random.nextInt(6));
        }
    }

    /** A move that may be made at the end of a roll, if chance finds one soon. */
    private int fitting(int roll) {
        int move = some(0);
        for (int tries = 0; tries < 20 && oracle.may(0, 0, move, oracle.judged(roll, 1)) != 1; tries++) {
            move = some(0);
        }
        return move;
    }

    private static int[] a(int... args) {
        return args;
    }

    private int some(int sort) {
        return random.nextInt(Math.max(1, oracle.count(sort)));
    }

    private int odd() {
        int[] odd = {-1, 0, 1, 2, 3, 4, 5, 7, 8, 15, 16, 23, 24, 29, 30, 39, 40, 99, 100, 255, 256, 400, 401,
            2999, 3000, 3999, 4000, 4001, 65535, 65536, 16777215, 16777216, 1 << 30, -2, -3,
            Integer.MIN_VALUE, Integer.MAX_VALUE};
        return odd[random.nextInt(odd.length)];
    }

    private int year() {
        int[] years = {0, 1, 2, 3, 5, 50, 99, 100, 101, 2998, 2999};
        return years[random.nextInt(random.nextInt(3) == 0 ? years.length : 4)];
    }

    private int state() {
        return random.nextInt(5) == 0 ? random.nextInt(1 << 24) : random.nextInt(1 << letters);
    }

    private String textOf(int sort) {
        if (sort == 2 && random.nextInt(3) != 0) {
            return hope();
        }
        return sort == 0 ? move() : sort == 1 ? gift() : test(0);
    }

    private String right() {
        return String.valueOf((char) ('A' + (spread == 24 && random.nextInt(8) == 0 ? random.nextInt(24)
                : random.nextInt(letters))));
    }

    private String rights(int most) {
        StringBuilder b = new StringBuilder(right());
        for (int i = random.nextInt(most); i > 0; i--) {
            b.append(blank()).append(right());
        }
        return b.toString();
    }

    private String blank() {
        return random.nextInt(5) == 0 ? " " : "";
    }

    private String hope() {
        StringBuilder b = new StringBuilder(right());
        for (int i = random.nextInt(wide ? 7 : 3); i > 0; i--) {
            b.append(random.nextInt(4) == 0 ? " and not " : " and ").append(right());
        }
        return b.toString();
    }

    private String test(int depth) {
        StringBuilder b = new StringBuilder();
        int facts = 1 + (random.nextInt(3) == 0 ? random.nextInt(5) : random.nextInt(2));
        for (int i = 0; i < facts; i++) {
            if (i > 0) {
                b.append(random.nextBoolean() ? " and " : " or ");
            }
            b.append(fact(depth));
        }
        return b.toString();
    }

    private String fact(int depth) {
        int kind = random.nextInt(10);
        if (kind == 0 && depth < 9) {
            return "[" + blank() + test(depth + 1) + blank() + "]";
        }
        if (kind <= 2 && depth < 9) {
            return "not " + fact(depth + 1);
        }
        if (kind == 3) {
            String[] signs = {"<", "<=", "=", ">=", ">"};
            return "of " + rights(4) + blank() + signs[random.nextInt(5)] + blank() + random.nextInt(4);
        }
        return right();
    }

    private String move() {
        StringBuilder b = new StringBuilder();
        if (random.nextInt(6) != 0) {
            b.append("need ").append(test(0)).append(";");
        }
        b.append("give ").append(rights(2));
        if (random.nextInt(2) == 0) {
            b.append(";end ").append(rights(2));
        }
        if (random.nextInt(2) == 0) {
            b.append("; fee ").append(random.nextInt(20));
        }
        if (random.nextInt(2) == 0) {
            b.append("; days ").append(random.nextInt(20));
        }
        while (random.nextInt(2) == 0) {
            b.append("; lend ").append(random.nextInt(lenders));
        }
        while (random.nextInt(3) == 0) {
            b.append("; turn ").append(random.nextInt(16));
            b.append(random.nextBoolean() ? " if " + test(0) : "");
        }
        return b.toString();
    }

    private String wideMove() {
        String one = right();
        return (random.nextBoolean() ? "need not " + one + ";give " + one : "give " + one)
                + (random.nextInt(5) == 0 ? ";end " + right() : "")
                + (random.nextBoolean() ? ";fee " + random.nextInt(9) : "")
                + (random.nextInt(4) == 0 ? ";lend " + random.nextInt(4) : "")
                + (random.nextInt(4) == 0 ? ";turn " + random.nextInt(4) : "");
    }

    private String gift() {
        StringBuilder b = new StringBuilder("have ").append(rights(2));
        while (random.nextInt(4) == 0) {
            b.append(blank()).append(";").append(blank()).append("stop ").append(right()).append(" and ").append(test(0));
        }
        return b.toString();
    }

    private String spoilt(String text) {
        StringBuilder b = new StringBuilder(text);
        for (int i = random.nextInt(3); i > 0 && b.length() > 0; i--) {
            int at = random.nextInt(b.length());
            switch (random.nextInt(5)) {
                case 0: b.deleteCharAt(at); break;
                case 1: b.setCharAt(at, (char) random.nextInt(256)); break;
                case 2: b.insert(at, piece()); break;
                case 3: b.setLength(at); break;
                default: b.insert(at, " " + piece() + " "); break;
            }
        }
        return b.toString();
    }

    private String noise() {
        StringBuilder b = new StringBuilder();
        int pieces = random.nextInt(random.nextInt(4) == 0 ? 120 : 12);
        String favourite = piece();
        for (int i = 0; i < pieces; i++) {
            b.append(random.nextInt(3) == 0 ? piece() : favourite).append(random.nextInt(4) == 0 ? "" : " ");
        }
        return b.toString();
    }

    private String piece() {
        String[] pieces = {"need", "give", "end", "days", "fee", "lend", "turn", "if", "have", "stop", "and", "or",
            "not", "of", "[", "]", ";", "A", "X", "Y", "<", "<=", "=", ">=", ">", "==", "0", "24", "25", "999", "1000",
            "15", "16", "9999", "10000", "00001", "000001", "99999", "123456789012", "or A", "and B", "give A;",
            "need A;", "fee 1;", "[[", "not not", "A or [", "\t", "\n", "a", "z", "{", "@", "`", "/", ":"};
        return pieces[random.nextInt(pieces.length)];
    }
}
