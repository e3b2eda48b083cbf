import java.lang.reflect.Method;
import java.util.ArrayList;
import java.util.List;
import java.util.Random;

/** Runs of calls drawn from fixed seeds, each answered by the program and by Model: java ModelRuns [runs] [first seed]. */
public final class ModelRuns {
    private static final int CALLS = 512;

    private final Random random;
    private final RipePromises program = new RipePromises();
    private final Model model = new Model();
    private final List<String> told = new ArrayList<>();
    private int calls;

    private ModelRuns(long seed) { random = new Random(seed); }

    private int draw(int n) { return random.nextInt(n); }

    private int draw(int low, int high) { return low + random.nextInt(high - low + 1); }

    private String wellTold() {
        StringBuilder s = new StringBuilder();
        int towns = draw(8) == 0 ? 1 : draw(2, 5), keepers = draw(8) == 0 ? 0 : draw(1, 3), slackest = draw(10), promises = 0, oldest = draw(3) == 0 ? 60 : draw(4, 25);
        s.append('t').append(towns).append(';');
        for (int i = draw(9); i > 0 && towns > 1; i--) {
            int a = draw(towns), b = draw(towns);
            if (a != b) s.append("r" + a + " " + b + " " + draw(1, draw(2) == 0 ? 3 : 9) + ";");
        }
        if (draw(2) == 0) s.append(winter());
        for (int k = 0; k < keepers; k++) s.append("k" + draw(towns) + " " + draw(3 - draw(3)) + ";");
        int crowd = draw(12) == 0 ? 7 : 5;
        for (int i = draw(crowd + 1); i > 0 && keepers > 0; i--) {
            int graft = promises > 0 && draw(3) == 0 ? draw(promises) : 9;
            s.append("p" + draw(keepers) + " " + draw(towns) + " " + draw(1, oldest) + " " + draw(slackest + 1) + " " + draw(1, draw(2) == 0 ? 3 : 9) + " " + graft + ";");
            promises++;
        }
        return s.toString();
    }

    private String winter() {
        int round = draw(2, draw(2) == 0 ? 9 : 99);
        return "w" + draw(99) + " " + draw(round) + " " + round + ";";
    }

    private String spoilt(String s) {
        StringBuilder b = new StringBuilder(s);
        for (int i = draw(1, 3); i > 0; i--) {
            int at = draw(b.length() + 1);
            String put = switch (draw(9)) {
                case 0 -> " ";
                case 1 -> String.valueOf((char) draw(256));
                case 2 -> "" + draw(12);
                case 3 -> "" + draw(2000);
                case 4 -> ";";
                case 5 -> "w1 2 3;";
                case 6 -> "r0 1 2;";
                case 7 -> "k0 0;";
                default -> "p0 0 3 1 2 9;";
            };
            if (draw(3) > 0) b.insert(at, put);
            else if (at < b.length()) b.deleteCharAt(at);
            if (draw(6) == 0) b.setLength(draw(b.length() + 1));
        }
        return b.toString();
    }

    private void tell() {
        String s = wellTold();
        if (draw(4) == 0) s = spoilt(s);
        for (int i = 0; i < s.length() && i < 251; i++) call("feed", s.charAt(i));
        call("land");
        call("fault");
        if (draw(2) == 0) call("image", 0);
    }

    private int town() { return draw(12) == 0 ? draw(-2, 6) : draw(Math.max(1, model.told(0))); }
    private int keeper() { return draw(12) == 0 ? draw(-2, 4) : draw(Math.max(1, model.told(2))); }
    private int promise() { return draw(12) == 0 ? draw(-2, 8) : draw(Math.max(1, model.told(3))); }
    private int odd(int low, int high) { return draw(10) == 0 ? draw(2) == 0 ? low - draw(1, 3) : high + draw(1, 3) : draw(low, high); }

    private void onWhat() {
        switch (draw(26)) {
            case 0 -> call("told", odd(0, 12));
            case 1 -> call("far", town(), town());
            case 2 -> call("keeper", keeper(), odd(0, 3));
            case 3, 4 -> call("promise", promise(), odd(0, 8));
            case 5 -> call("fell", odd(0, 2));
            case 6 -> call("plan", keeper(), odd(-1, 4));
            case 7 -> call("clash", keeper(), odd(0, 1));
            case 8 -> { if (draw(8) == 0) call("still", keeper(), town(), odd(0, 9)); }
            case 9 -> call("hands", promise());
            case 10 -> call("hands", -1);
            case 11 -> call("calendar", keeper(), draw(9) == 0 ? odd(0, 9999) : model.told(5) + draw(20));
            case 12 -> call("busiest", odd(0, 1));
            case 13 -> call("lives", promise(), odd(0, 1000));
            case 14 -> call("share", keeper());
            case 15 -> call("let", keeper(), draw(3) == 0 ? odd(0, 99) : draw(20), odd(0, 2));
            case 16 -> call("write", promise(), draw(9) == 0 ? odd(0, 9999) : model.told(5) + draw(25));
            case 17 -> call("judge");
            case 18 -> { if (draw(3) == 0) call("tear"); }
            case 19 -> call("plan", keeper(), -1);
            case 20 -> writeRipe();
            case 21 -> goBack();
            default -> act();
        }
    }

    /** Mostly to the first days of the text, where promises are open still. */
    private void goBack() {
        call("goBack", draw(9) == 0 ? draw(-1, 3) : draw(5) / 4);
    }

    /** Lines that may well stand: of an open promise, on one of its days. */
    private void writeRipe() {
        int p = promise();
        int ripe = model.promise(p, 7);
        call("write", p, ripe >= 0 ? ripe + draw(0, Math.max(0, model.promise(p, 3))) : model.told(5) + draw(30));
        call("judge");
    }

    private void act() {
        switch (draw(14)) {
            case 0, 1 -> call("go", keeper(), town());
            case 2 -> call("day", odd(1, draw(6) == 0 ? 99 : 4));
            case 3 -> call("day", 1);
            case 4, 5, 6 -> keepOne();
            case 7 -> call("takeDown", promise());
            case 8 -> call("swap", promise(), promise());
            case 9 -> call("drift", odd(1, draw(6) == 0 ? 99 : 4));
            case 10 -> call("undo", odd(1, draw(2) == 0 ? 30 : 3));
            case 11 -> call("seed", draw(3) == 0 ? random.nextInt() : draw(100));
            case 12 -> call("image", draw(9) == 0 ? draw(-1, 3) : draw(2));
            default -> goBack();
        }
    }

    /** Goes to a promise's town and waits, so that some are kept. */
    private void keepOne() {
        int p = promise();
        int k = model.promise(p, 0);
        call("keep", p);
        call("go", k, model.promise(p, 1));
        int ripe = model.promise(p, 7);
        int wait = Math.max(ripe, model.keeper(k, 2)) - model.told(5) + draw(-1, 1);
        if (wait > 0 && wait < 100) call("day", wait);
        call("keep", p);
    }

    private void call(String name, int... given) {
        if (calls == CALLS) return;
        calls++;
        StringBuilder shown = new StringBuilder(name + "(");
        Class<?>[] kinds = new Class<?>[given.length];
        Object[] values = new Object[given.length];
        for (int i = 0; i < given.length; i++) {
            kinds[i] = int.class;
            values[i] = given[i];
            shown.append(i == 0 ? "" : ", ").append(given[i]);
        }
        told.add(shown + ")");
        try {
            Method mine = RipePromises.class.getMethod(name, kinds);
            Method other = Model.class.getMethod(name, kinds);
            Object got = mine.invoke(program, values);
            Object due = other.invoke(model, values);
            if (!got.equals(due)) throw new IllegalStateException(told + " answered " + got + ", due is " + due);
        } catch (ReflectiveOperationException e) {
            throw new IllegalStateException(told + " failed", e);
        }
    }

    private void run() {
        while (calls < CALLS) {
            tell();
            for (int i = draw(40, 250); i > 0 && calls < CALLS; i--) onWhat();
        }
    }

    public static void main(String[] args) {
        int runs = args.length > 0 ? Integer.parseInt(args[0]) : 300;
        long first = args.length > 1 ? Long.parseLong(args[1]) : 1;
        int failed = 0;
        for (long seed = first; seed < first + runs; seed++) {
            try {
                new ModelRuns(seed).run();
            } catch (IllegalStateException e) {
                failed++;
                System.out.println("seed " + seed + ": " + e.getMessage());
                if (e.getCause() != null) e.getCause().printStackTrace(System.out);
                if (failed == 5) break;
            }
        }
        System.out.println("ModelRuns: " + (runs - failed) + " passed, " + failed + " failed");
        if (failed > 0) System.exit(1);
    }
}
