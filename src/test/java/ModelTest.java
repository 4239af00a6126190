import java.lang.reflect.InvocationTargetException;
import java.lang.reflect.Method;
import java.util.ArrayList;
import java.util.Arrays;
import java.util.HashMap;
import java.util.List;
import java.util.Map;
import java.util.Random;

/** Runs of up to 512 drawn calls, the program against the plain model. The draws are always the same. */
public final class ModelTest {
    /** For each call what its arguments are, so that most draws are ones that may be. */
    private static final String[][] CALLS = {
        {"village", "height"}, {"villageOf", "village", "what3"}, {"slide", "village", "height"},
        {"hermit", "village", "flag"}, {"road", "village", "village", "length"}, {"roadOf", "road", "what2"},
        {"every", "every"}, {"sea"}, {"peak"},
        {"needs", "kind", "road"}, {"goes", "kind", "road", "flag"}, {"least", "kind", "village", "village"},
        {"reach", "kind", "village"}, {"whence", "kind", "village"}, {"below", "kind", "village"},
        {"round", "kind", "village", "village"}, {"live", "kind", "set"}, {"quiet", "kind"},
        {"kind", "village", "village"}, {"rise", "kind", "village", "village"},
        {"fall", "kind", "village", "village"}, {"dig", "kind", "village"},
        {"send", "kind", "village", "village"}, {"of", "letter", "what5"}, {"turn", "letter", "kind"},
        {"as", "letter", "kind"}, {"next", "letter"}, {"days", "days"}, {"day", "day"}, {"now", "what4"},
        {"on", "letter", "ahead"}, {"when", "letter"}, {"first", "letter", "letter"},
        {"feed", "any", "four"}, {"wipe"}, {"text"},
        {"sheet", "sheet", "bits", "size"}, {"write", "sheet", "place", "long"},
        {"copy", "sheet", "place", "sheet", "place", "run"}, {"lays", "sheet"}, {"table", "sheet", "kind", "village"},
        {"read", "sheet", "kind"},
        {"image"}, {"undo"}, {"tear"}, {"count", "what4"}, {"status", "which"},
    };
    /** These would soon empty or move everything if they came as often as the others. */
    private static final List<String> SELDOM = List.of("feed", "wipe", "undo", "tear", "day", "lays", "hermit", "slide");

    private final Random random;
    private final Due due;
    private final Map<String, Method> ofProgram = new HashMap<>();
    private final Map<String, Method> ofModel = new HashMap<>();
    private DownhillPost program;
    private PlainPost model;
    private int calls;
    private boolean wrong;
    private final List<String> told = new ArrayList<>();

    private ModelTest(long seed, Due due) {
        this.random = new Random(seed);
        this.due = due;
        for (Method method : DownhillPost.class.getDeclaredMethods()) {
            if (java.lang.reflect.Modifier.isPublic(method.getModifiers())) {
                ofProgram.put(method.getName(), method);
            }
        }
        for (Method method : PlainPost.class.getDeclaredMethods()) {
            if (ofProgram.containsKey(method.getName())) {
                ofModel.put(method.getName(), method);
            }
        }
    }

    public static void main(String[] args) throws ReflectiveOperationException {
        int runs = args.length > 0 ? Integer.parseInt(args[0]) : 400;
        long first = args.length > 1 ? Long.parseLong(args[1]) : 1;
        Due due = new Due();
        for (int run = 0; run < runs; run++) {
            new ModelTest(first + run, due).run();
        }
        due.end("ModelTest");
    }

    private void run() throws ReflectiveOperationException {
        program = new DownhillPost();
        model = new PlainPost();
        calls = 0;
        settle();
        while (calls < 512 && !wrong) {
            String[] call = CALLS[random.nextInt(CALLS.length)];
            if (SELDOM.contains(call[0]) && random.nextInt(4) != 0) {
                continue;
            }
            if (call[0].equals("text") && random.nextInt(3) != 0) {
                feedText();
            }
            Object[] values = new Object[call.length - 1];
            for (int i = 0; i < values.length; i++) {
                values[i] = draw(call[i + 1]);
            }
            both(call[0], values);
        }
    }

    /** A land to begin with, from a few villages to full. */
    private void settle() throws ReflectiveOperationException {
        int villages = random.nextInt(14);
        for (int i = 0; i < villages; i++) {
            both("village", height());
        }
        int roads = random.nextInt(27);
        for (int i = 0; i < roads && villages > 0; i++) {
            both("road", random.nextInt(villages), random.nextInt(villages), 1 + random.nextInt(9));
        }
        for (int i = random.nextInt(12); i > 0 && villages > 0; i--) {
            both("send", random.nextInt(6), random.nextInt(villages), random.nextInt(villages));
        }
        both("every", 1 + random.nextInt(random.nextBoolean() ? 9 : 99));
        if (random.nextInt(5) == 0) {
            both("day", 9790 + random.nextInt(210));
        }
    }

    private void both(String name, Object... values) throws ReflectiveOperationException {
        // What an object answers after its 512th call is free.
        if (calls >= 512) {
            return;
        }
        long want;
        try {
            want = ((Number) ofModel.get(name).invoke(model, values)).longValue();
        } catch (InvocationTargetException thrown) {
            if (!(thrown.getCause() instanceof PlainPost.Finding finding)) {
                throw thrown;
            }
            model.tell(finding);
            want = -1000000000L - finding.code;
        }
        calls++;
        String call = name + Arrays.toString(values);
        told.add(call + " = " + want);
        long got = ((Number) ofProgram.get(name).invoke(program, values)).longValue();
        due.due(call, got, want);
        if (got != want) {
            wrong = true;
            System.out.println("  after " + told);
        }
    }

    private int height() {
        switch (random.nextInt(8)) {
            case 0: return 9999;
            case 1: return 0;
            case 2: return random.nextInt(10000);
            default: return random.nextInt(8);
        }
    }

    private int wild() {
        int[] few = {Integer.MIN_VALUE, -1000000001, -2, -1, 0, 1, 7, 12, 13, 24, 40, 41, 100, 201, 10000, Integer.MAX_VALUE};
        return random.nextInt(3) == 0 ? random.nextInt() : few[random.nextInt(few.length)];
    }

    private Object draw(String sort) {
        if (sort.equals("flag")) {
            return random.nextBoolean();
        }
        if (sort.equals("long")) {
            return random.nextBoolean() ? random.nextLong() : random.nextInt(14) - 1L;
        }
        return random.nextInt(25) == 0 ? wild() : drawFit(sort);
    }

    private int below(int most) {
        return most <= 0 ? 0 : random.nextInt(most);
    }

    private int drawFit(String sort) {
        if (sort.startsWith("what")) {
            return below(Integer.parseInt(sort.substring(4)) + 1);
        }
        switch (sort) {
            case "height": return height();
            case "village": return below(model.count(0));
            case "road": return below(model.count(1));
            case "letter": return below(model.count(2));
            case "length": return 1 + below(9);
            case "every": return 1 + below(random.nextBoolean() ? 9 : 99);
            case "kind": return below(6);
            case "set": return below(1 << model.count(0)) & (random.nextBoolean() ? -1 : random.nextInt());
            case "days": return random.nextInt(6) == 0 ? 1 + below(200) : 1 + below(5);
            case "ahead": return random.nextInt(3) == 0 ? below(201) : below(20);
            case "day": return random.nextInt(4) == 0 ? 9790 + below(210) : below(300);
            case "four": return 1 + below(4);
            case "sheet": return below(4);
            case "bits": return new int[] {0, 8, 16, 64, 8, 16, 64, 64}[below(8)];
            case "size": return random.nextInt(8) == 0 ? below(44) - 2 : below(14);
            case "place": return below(14);
            case "run": return below(8);
            case "which": return below(9) - 1;
            default: return random.nextInt();
        }
    }

    private void feedText() throws ReflectiveOperationException {
        if (random.nextInt(4) != 0) {
            both("wipe");
        }
        byte[] bytes = someText().getBytes(java.nio.charset.StandardCharsets.ISO_8859_1);
        for (int i = 0; i < bytes.length;) {
            int n = Math.min(1 + random.nextInt(4), bytes.length - i);
            int number = random.nextInt();
            for (int k = 0; k < n; k++) {
                number = number << 8 | bytes[i++] & 255;
            }
            both("feed", number, n);
        }
    }

    private String someText() {
        StringBuilder text = new StringBuilder();
        for (int items = random.nextInt(7); items >= 0; items--) {
            text.append(blanks(0)).append(item()).append(blanks(0)).append(items > 0 ? ";" : "");
        }
        for (int faults = random.nextInt(4) == 0 ? 1 + random.nextInt(2) : 0; faults > 0 && text.length() > 0; faults--) {
            spoil(text);
        }
        return text.length() > 130 ? text.substring(0, 130) : text.toString();
    }

    private void spoil(StringBuilder text) {
        int place = random.nextInt(text.length());
        switch (random.nextInt(4)) {
            case 0: text.setLength(place); break;
            case 1: text.deleteCharAt(place); break;
            case 2: text.insert(place, "; hermit to days 9 0 99 village A".substring(random.nextInt(30))); break;
            default: text.setCharAt(place, (char) random.nextInt(256));
        }
    }

    private String blanks(int least) {
        return " ".repeat(least + (random.nextInt(5) == 0 ? random.nextInt(3) : 0));
    }

    private String number(int value) {
        return (random.nextInt(8) == 0 ? "0".repeat(random.nextInt(6)) : "") + value;
    }

    private String there() {
        return number(below(model.count(0) + (random.nextInt(6) == 0 ? 2 : 0)));
    }

    private String item() {
        String gap = blanks(random.nextInt(6) == 0 ? 0 : 1);
        switch (random.nextInt(6)) {
            case 0: return "village" + gap + number(height()) + (random.nextInt(3) == 0 ? gap + "hermit" : "");
            case 1: return "road" + gap + there() + gap + "to" + gap + there();
            case 2: return "road" + gap + there() + gap + "to" + gap + there() + gap + "days" + gap + random.nextInt(11);
            case 3: return "slide" + gap + there() + " " + number(random.nextInt(20) == 0 ? 10000 : height());
            case 4: return "every" + gap + number(random.nextInt(12) == 0 ? random.nextInt(120) : 1 + random.nextInt(9));
            default: return PlainPost.NAMES[random.nextInt(6)] + gap + there() + gap + "to" + gap + there();
        }
    }
}
