import java.lang.reflect.InvocationTargetException;
import java.lang.reflect.Method;
import java.lang.reflect.Modifier;
import java.util.ArrayList;
import java.util.Comparator;
import java.util.List;

/** Calls of every kind with arguments of every kind, in whatever state: none throws, and what must hold, holds. */
public final class SturdyTest {
    private static final int[] ODD = {
        Integer.MIN_VALUE, Integer.MIN_VALUE + 9, Integer.MIN_VALUE + 10, -100001, -1000, -33, -32, -2, -1,
        7, 8, 16, 24, 25, 31, 32, 33, 39, 40, 41, 80, 81, 99, 123, 124, 144, 200, 201, 240, 241, 255, 256,
        9999, 100000, 100001, 65536, Integer.MAX_VALUE - 9, Integer.MAX_VALUE
    };
    private static final String[] TEXTS = {
        "das haus=the house;das buch=the book;ein buch=a book", "a b c d e f=f e d c b a", "a a b=b a a;b=b;c=c",
        "ab,c de|f,gh i", "a,b,c,d,e,f,g,h|a,b,c,d,e,f,g,h", "a b c", "das", "", ";", "a=b;", "abcdefgh=a", "a|b"
    };

    private static long seed = 20261119;
    private static int wrong = 0;

    private SturdyTest() {
    }

    public static void main(String[] args) {
        int objects = args.length > 0 ? Integer.parseInt(args[0]) : 300;
        List<Method> methods = new ArrayList<>();
        for (Method method : WordLinks.class.getDeclaredMethods()) {
            if (Modifier.isPublic(method.getModifiers())) {
                methods.add(method);
            }
        }
        methods.sort(Comparator.comparing(Method::getName));
        for (int k = 0; k < objects && wrong == 0; k++) {
            use(new WordLinks(), methods);
        }
        System.out.println(wrong == 0 ? "nothing threw" : wrong + " wrong");
        if (wrong != 0) {
            System.exit(1);
        }
    }

    private static int pick(int n) {
        seed = seed * 6364136223846793005L + 1442695040888963407L;
        return (int) ((seed >>> 33) % n);
    }

    private static void use(WordLinks x, List<Method> methods) {
        int calls = 0;
        StringBuilder row = new StringBuilder();
        while (calls < 400) {
            if (pick(6) == 0) {
                calls += text(x, row);
            } else {
                call(x, methods.get(pick(methods.size())), row);
                calls++;
            }
            if (wrong != 0) {
                System.out.println("behind" + row);
                return;
            }
        }
        holds(x, row);
    }

    /** A text on the tape and one of the calls that read it. */
    private static int text(WordLinks x, StringBuilder row) {
        String text = TEXTS[pick(TEXTS.length)];
        x.check(0);
        row.append(" check(0) text ").append(text);
        for (int at = 0; at < text.length(); at += 20) {
            int[] five = new int[5];
            for (int k = 0; k < 20; k++) {
                five[k / 4] = five[k / 4] << 8 | (at + k < text.length() ? text.charAt(at + k) : ' ');
            }
            x.feed(five[0], five[1], five[2], five[3], five[4]);
        }
        int n = text.length();
        switch (pick(5)) {
            case 0: x.sheets(n); break;
            case 1: x.over(pick(6), n, pick(3)); break;
            case 2: x.find(pick(2), n); break;
            default: x.pairs(n); break;
        }
        return 2 + (text.length() + 19) / 20;
    }

    private static int number() {
        switch (pick(4)) {
            case 0: return ODD[pick(ODD.length)];
            case 1: return pick(130);
            default: return pick(7);
        }
    }

    private static void call(WordLinks x, Method method, StringBuilder row) {
        Class<?>[] types = method.getParameterTypes();
        Object[] arguments = new Object[types.length];
        row.append(' ').append(method.getName());
        for (int k = 0; k < types.length; k++) {
            arguments[k] = types[k] == boolean.class ? (Object) (pick(2) == 0) : (Object) number();
            row.append(k == 0 ? '(' : ',').append(arguments[k]);
        }
        try {
            method.invoke(x, arguments);
        } catch (InvocationTargetException e) {
            wrong++;
            System.out.println(method.getName() + " threw " + e.getCause());
        } catch (IllegalAccessException e) {
            throw new IllegalStateException(e);
        }
    }

    private static void due(String what, boolean is) {
        if (!is) {
            wrong++;
            System.out.println(what + " does not hold");
        }
    }

    private static void holds(WordLinks x, StringBuilder row) {
        due("at most 24 pairs", x.count(0) >= 0 && x.count(0) <= 24);
        due("least is 0 to 100000", x.count(1) >= 0 && x.count(1) <= 100000);
        due("at most 240 bytes", x.count(2) >= 0 && x.count(2) <= 240);
        for (int way = 0; way < 2; way++) {
            int all = 0;
            for (int k = 0; k < 8; k++) {
                all += x.near(way, k);
            }
            due("near shares are 100000", all == 100000);
            due("at most 40 words", x.side(way, 0) >= 0 && x.side(way, 0) <= 40);
            if (x.side(way, 0) > 0) {
                all = 0;
                for (int to = 0; to < x.side(1 - way, 0) && to < 20; to++) {
                    all += Math.max(x.share(way, 0, to), 0);
                }
                due("shares are 100000", all == 100000 || x.side(1 - way, 0) > 20);
            }
        }
        due("kinds are one in the other", x.linked(2, -1) <= x.linked(4, -1) && x.linked(4, -1) <= x.linked(5, -1)
                && x.linked(5, -1) <= x.linked(3, -1));
        if (wrong != 0) {
            System.out.println("behind" + row);
        }
    }
}
