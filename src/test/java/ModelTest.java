import java.lang.reflect.Method;
import java.util.ArrayList;
import java.util.Arrays;
import java.util.List;
import java.util.Map;
import java.util.TreeMap;

/**
 * Random runs of 512 calls, on FoldPress and on the Model: both answer the same, nothing throws, and all that can
 * be asked without a change is the same at the end of a run. The numbers come from a fixed seed.
 */
public final class ModelTest {
    private static final int RUNS = 2500, CALLS = 512, MOST_SHOWN = 5;
    private static final int[] WILD = {Integer.MIN_VALUE, Integer.MAX_VALUE, Integer.MIN_VALUE + 1, -7, 1 << 16, 99};

    // A letter for each argument says what it may be: see argument().
    private static final String[] CALL_FORMS = {
        "job lw", "page j", "blank jp", "rows jpn", "row jpin", "row jpiw", "miss jpi", "letter jpikc",
        "letter jpikc", "at jpik", "size jpi", "move jpipinw", "moved", "cut jnw", "join jj", "fold 4d", "fold 4d",
        "cross ff", "lips f", "inner fd", "worth fd", "face fnnK3", "faces fnn", "sheet jnn", "sheet jnn", "tear sdi",
        "put sdiipd", "put sdiipd", "cell sdiid", "shift sdisdinn", "lay sfp", "read sfK", "seen sdiiik",
        "signature d", "gather gs", "gather gs", "bind gfp", "leaf gfKd", "creep gfi", "add g", "cover s",
        "pageAt fK", "wrap fK", "foldBy sf", "foldBy sf", "margin n", "feed s", "feed s", "doubled", "jam 4", "step",
        "step", "step", "reprint s", "clear", "clear", "state s3", "good g", "undo", "undo", "told t", "trace K",
        "about j3",
    };

    // In a prepared run most of these are left out, or soon nothing would go well any more.
    private static final List<String> SPOILERS =
        List.of("blank", "rows", "row", "miss", "cut", "tear", "put", "doubled", "jam", "foldBy", "margin");

    // Rows, columns, and kind and axis of the folds that lay such a grid down to one pile, one after the other.
    private static final int[][] FITTING = {
        {1, 1, 0, 0}, {1, 2, 1, 1}, {2, 1, 1, 0}, {2, 2, 1, 1, 1, 0}, {2, 2, 1, 0, 1, 1}, {1, 3, 2, 1}, {3, 1, 2, 0},
        {1, 4, 4, 1}, {1, 4, 3, 1, 1, 1}, {4, 1, 4, 0}, {2, 4, 1, 0, 4, 1}, {1, 6, 2, 1, 1, 1}, {6, 1, 2, 0, 1, 0},
        {1, 6, 1, 1, 2, 1}, {3, 2, 2, 0, 0, 1, 1, 1}, {4, 4, 4, 1, 4, 0}, {1, 8, 3, 1, 3, 1, 1, 1}, {8, 2, 4, 0, 1, 1, 1, 0},
        {8, 8, 4, 1, 4, 0, 1, 1, 1, 0}, {6, 6, 1, 1, 2, 0, 2, 1, 1, 0},
    };

    private static final Map<String, Method> METHODS = new TreeMap<>();
    private static long seed = 20261116L;
    private static int wrong = 0;

    private FoldPress press;
    private Model model;
    private final List<String> calls = new ArrayList<>();
    // A fold that lays most sheets of the run down to one pile; -1 in a run that is not prepared.
    private int fitting = -1;

    private static int random(int below) {
        seed = seed * 6364136223846793005L + 1442695040888963407L;
        return (int) ((seed >>> 33) % below);
    }

    /** One of 0 .. count - 1, now and then just beside it. */
    private static int near(int count) {
        return random(12) == 0 ? random(count + 2) - 1 : random(Math.max(count, 1));
    }

    private int argument(char form) {
        if (random(200) == 0) {
            return WILD[random(WILD.length)];
        }
        switch (form) {
            case 'j': return near(model.jobCount());
            case 'p': return 1 + near(random(4) == 0 ? 24 : Math.max(model.pageCount(0), 3));
            case 'i': return near(4);
            case 'k': return near(5);
            case 'l': return 1 + near(8);
            case 'w': return near(11);
            case 'n': return random(3) == 0 ? near(9) : 1 + near(4);
            case 'c': return 32 + near(95);
            case 'f': return fitting >= 0 && random(3) != 0 ? fitting : near(model.foldCount());
            case 's': return near(model.sheetCount());
            case 'g': return near(model.signatureCount());
            case 'd': return near(2);
            case 'K': return near(random(4) == 0 ? 260 : 12);
            case '3': return near(4);
            case '4': return near(5);
            case 't': return near(13);
            default: throw new IllegalArgumentException("form " + form);
        }
    }

    private void both(String name, int... arguments) throws ReflectiveOperationException {
        Object[] boxed = Arrays.stream(arguments).boxed().toArray();
        calls.add(name + Arrays.toString(arguments));
        int want = model.call(name, arguments);
        int got = (Integer) METHODS.get(name).invoke(press, boxed);
        if (got != want) {
            wrong++;
            if (wrong <= MOST_SHOWN) {
                System.out.println("after " + calls + ": answered " + got + ", due is " + want);
            }
        }
    }

    private void anyCall() throws ReflectiveOperationException {
        String[] form = CALL_FORMS[random(CALL_FORMS.length)].split(" ");
        if (fitting >= 0 && SPOILERS.contains(form[0]) && random(8) != 0) {
            return;
        }
        String kinds = form.length > 1 ? form[1] : "";
        int[] arguments = new int[kinds.length()];
        for (int n = 0; n < arguments.length; n++) {
            arguments[n] = argument(kinds.charAt(n));
        }
        both(form[0], arguments);
    }

    /** Pages with letters, and sheets and folds that fit, so that the calls that follow reach deep. */
    private void prepare() throws ReflectiveOperationException {
        for (int job = 0; job < 2; job++) {
            both("job", 3 + job, 4 + job);
            for (int page = 1; page <= 4 + 2 * job; page++) {
                both("page", job);
                both("rows", job, page, 3 + job);
                for (int i = 0; i < 3 + job; i++) {
                    both("row", job, page, i, 4 + job);
                    both("letter", job, page, i, random(4), 33 + random(90));
                }
            }
        }
        int[] fit = FITTING[random(FITTING.length)];
        for (int n = 2; n < fit.length; n += 2) {
            both("fold", fit[n], fit[n + 1]);
            int made = model.foldCount() - 1;
            if (n > 2) {
                both("cross", fitting, made);
                made++;
            }
            fitting = made;
        }
        for (int n = 0; n < 3; n++) {
            both("fold", random(5), random(2));
            both("cross", random(model.foldCount()), random(model.foldCount()));
        }
        for (int sheet = 0; sheet < 6; sheet++) {
            int[] size = random(8) == 0 ? FITTING[random(FITTING.length)] : fit;
            both("sheet", random(2), size[0], size[1]);
        }
        for (int way = 0; way < 3; way++) {
            both("signature", way % 2);
        }
        for (int sheet = 0; sheet < 6; sheet++) {
            both("gather", random(3), sheet);
            both("foldBy", sheet, argument('f'));
        }
        for (int signature = 0; signature < 3; signature++) {
            both("add", signature);
            both("bind", signature, argument('f'), 1 + random(3));
        }
    }

    /** All that is to be seen; asked after the 512 calls would be free, so runs keep room for it. */
    private void compareAll() throws ReflectiveOperationException {
        for (int n = 0; n < 10; n++) {
            both("face", argument('f'), 1 + random(4), 1 + random(4), argument('K'), random(4));
            both("trace", random(40));
        }
        for (int what = 0; what <= 12; what++) {
            both("told", what);
        }
        for (int sheet = 0; sheet < model.sheetCount(); sheet++) {
            for (int what = 0; what < 3; what++) {
                both("state", sheet, what);
            }
            for (int side = 0; side < 2; side++) {
                for (int column = 0; column < 2; column++) {
                    both("cell", sheet, side, 0, column, random(2));
                }
            }
        }
        for (int job = 0; job < model.jobCount(); job++) {
            for (int what = 0; what < 3; what++) {
                both("about", job, what);
            }
            for (int page = 1; page <= Math.min(4, model.pageCount(job)); page++) {
                both("size", job, page, -1);
                both("at", job, page, random(3), random(4));
            }
        }
    }

    private void run(boolean prepared) throws ReflectiveOperationException {
        press = new FoldPress();
        model = new Model();
        calls.clear();
        if (prepared) {
            prepare();
        }
        while (calls.size() < CALLS - 160 && wrong < MOST_SHOWN) {
            anyCall();
        }
        compareAll();
    }

    public static void main(String[] args) throws ReflectiveOperationException {
        for (Method method : FoldPress.class.getDeclaredMethods()) {
            METHODS.put(method.getName(), method);
        }
        int asked = 0;
        for (int run = 0; run < RUNS && wrong == 0; run++) {
            ModelTest test = new ModelTest();
            test.run(run % 4 != 0);
            asked += test.calls.size();
        }
        System.out.println(asked + " calls compared, " + wrong + " not as due");
        if (wrong != 0) {
            System.exit(1);
        }
    }
}
