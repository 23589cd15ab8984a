import java.util.ArrayList;
import java.util.List;
import java.util.Random;

/** Long runs of calls, made up by a source of numbers with a fixed start: HoleHouse and the Model answer the same. */
public final class ModelTest {
    private static final int RUNS = 100;
    /** So many calls of an object are promised. */
    private static final int CALLS = 512;
    /** No step of a run makes more calls. */
    private static final int LONGEST_STEP = 20;

    private final Check check;
    private final Random random;
    private final List<String> calls = new ArrayList<>();
    private HoleHouse house = new HoleHouse();
    private Model model = new Model();

    private ModelTest(Check check, long start) {
        this.check = check;
        this.random = new Random(start);
    }

    public static void main(String[] args) {
        Check check = new Check();
        long from = args.length > 0 ? Long.parseLong(args[0]) : 1L;
        long runs = args.length > 1 ? Long.parseLong(args[1]) : RUNS;
        for (long run = from; run < from + runs && check.wrong() == 0; run++) {
            new ModelTest(check, run).run();
        }
        check.finish();
    }

    private void run() {
        boolean deep = random.nextInt(4) == 0;
        while (calls.size() < CALLS && check.wrong() == 0) {
            if (calls.size() > CALLS - LONGEST_STEP) {
                anyCall();
            } else if (random.nextInt(12) == 0) {
                build();
            } else if (random.nextInt(6) == 0) {
                text();
            } else if (random.nextInt(deep ? 20 : 200) == 0) {
                slowQuestion();
            } else {
                anyCall();
            }
        }
        check.hold("a run has " + CALLS + " calls, not " + calls.size(), check.wrong() != 0 || calls.size() == CALLS);
        if (check.wrong() != 0) {
            System.out.println("the run of calls and what was due: " + calls);
        }
    }

    private void same(String call, long got, long want) {
        calls.add(call + " " + want);
        check.due(call, got, want);
    }

    private int number(int low, int high) {
        if (random.nextInt(40) == 0) {
            int[] far = {Integer.MIN_VALUE, Integer.MAX_VALUE, -1, 64, 32, low - 1, high + 1};
            return far[random.nextInt(far.length)];
        }
        return low + random.nextInt(high - low + 1);
    }

    private int set() {
        int all = (1 << model.look(0)) - 1;
        return number(0, all) & (random.nextBoolean() ? -1 : number(0, all));
    }

    /** A complex of one of several densities, since the holes of a sparse and of a dense one differ. */
    private void build() {
        int n = random.nextInt(3) == 0 ? number(1, 6) : 4 + random.nextInt(3);
        same("points(" + n + ")", house.points(n) ? 1 : 0, model.points_(n) ? 1 : 0);
        int many = random.nextInt(14);
        int size = 1 + random.nextInt(4);
        for (int i = 0; i < many; i++) {
            int set = set();
            if (Integer.bitCount(set) <= size) {
                same("face(" + set + ")", house.face(set), model.face(set));
            }
        }
    }

    private void slowQuestion() {
        for (int what = -1; what <= 5; what++) {
            same("first(" + what + ")", house.first(what), model.first(what));
        }
        same("look(5)", house.look(5), model.look(5));
        for (int what = 0; what <= 7; what++) {
            same("look(" + what + ")", house.look(what), model.look(what));
        }
    }

    private void text() {
        same("write()", house.write(), model.write());
        StringBuilder text = new StringBuilder(random.nextInt(3) == 0 ? made() : model.written());
        for (int i = random.nextInt(3); i > 0 && text.length() > 0; i--) {
            String signs = " \n0123456:7x\t";
            char sign = signs.charAt(random.nextInt(signs.length()));
            int place = random.nextInt(text.length());
            if (random.nextBoolean()) {
                text.setCharAt(place, sign);
            } else {
                text.insert(place, sign);
            }
        }
        tell(text.toString());
        same("read()", house.read(), model.read());
        same("fault()", house.fault(), model.fault());
    }

    private String made() {
        StringBuilder text = new StringBuilder();
        int n = 1 + random.nextInt(6);
        text.append(blanks(0)).append(n).append(blanks(0)).append(":").append(blanks(0));
        for (int i = random.nextInt(8); i > 0; i--) {
            int set = 1 + random.nextInt((1 << n) - 1);
            for (int p = 0; p < n; p++) {
                text.append((set >> p & 1) == 1 ? "" + p : "");
            }
            text.append(blanks(1));
        }
        return text.toString();
    }

    private String blanks(int least) {
        String made = "";
        for (int i = random.nextInt(3) == 0 ? 2 : least; i > 0; i--) {
            made += random.nextInt(3) == 0 ? "\n" : " ";
        }
        return made;
    }

    private void tell(String text) {
        same("end(0)", house.end(0) ? 1 : 0, model.end(0) ? 1 : 0);
        byte[] bytes = text.getBytes(java.nio.charset.StandardCharsets.ISO_8859_1);
        for (int from = 0; from < bytes.length; from += 20) {
            int[] five = new int[5];
            for (int i = 0; i < 5; i++) {
                five[i] = Tapes.number(bytes, from + 4 * i);
            }
            feed(five);
        }
        same("end(" + bytes.length + ")", house.end(bytes.length) ? 1 : 0, model.end(bytes.length) ? 1 : 0);
    }

    private void feed(int[] five) {
        same("feed(" + java.util.Arrays.toString(five) + ")", house.feed(five[0], five[1], five[2], five[3], five[4]),
            model.feed(five));
    }

    private void anyCall() {
        int set = set();
        int k = number(-1, 5);
        switch (random.nextInt(21)) {
            case 0: same("face(" + set + ")", house.face(set), model.face(set)); break;
            case 1: same("cut(" + set + ")", house.cut(set), model.cut(set)); break;
            case 2: same("link(" + set + ")", house.link(set), model.link(set)); break;
            case 3: same("dual()", house.dual() ? 1 : 0, model.dual() ? 1 : 0); break;
            case 4: case 5: same("undo()", house.undo() ? 1 : 0, model.undo() ? 1 : 0); break;
            case 6: same("has(" + set + ")", house.has(set), model.has(set)); break;
            case 7: same("faces(" + k + ")", house.faces(k), model.faces(k)); break;
            case 8: missing(); break;
            case 9: case 10: same("holes(" + set + ", " + k + ")", house.holes(set, k), model.holes(set, k)); break;
            case 11: space(); break;
            case 12: tower(); break;
            case 13: case 14: rank(); break;
            case 15: alike(); break;
            case 16: look(); break;
            case 17: same("fault()", house.fault(), model.fault()); break;
            case 18: same("write()", house.write(), model.write()); break;
            case 19: out(); break;
            default: tape(); break;
        }
    }

    private void missing() {
        int i = number(0, 12);
        same("missing(" + i + ")", house.missing(i), model.missing(i));
    }

    private void space() {
        int l = number(0, 12);
        int what = number(0, 1);
        same("space(" + l + ", " + what + ")", house.space(l, what), model.space(l, what));
    }

    private void tower() {
        int i = number(0, 4);
        int j = number(0, 6);
        same("tower(" + i + ", " + j + ")", house.tower(i, j), model.tower(i, j));
    }

    private void rank() {
        int all = (1 << model.look(0)) - 1;
        int j = number(0, all);
        int l = random.nextInt(10) == 0 ? number(0, all) : number(0, all) & ~j;
        int a = random.nextInt(8) == 0 ? number(0, 5) : random.nextInt(2);
        int b = random.nextInt(8) == 0 ? number(0, 5) : random.nextInt(2);
        String call = "rank(" + j + ", " + l + ", " + a + ", " + b + ")";
        same(call, house.rank(j, l, a, b), model.rank(j, l, a, b));
    }

    private void alike() {
        int p = number(0, model.look(0) - 1);
        int q = number(0, model.look(0) - 1);
        same("alike(" + p + ", " + q + ")", house.alike(p, q), model.alike(p, q));
    }

    private void look() {
        int[] quick = {0, 1, 2, 3, 4, 6, 7, 8, -1};
        int what = quick[random.nextInt(quick.length)];
        same("look(" + what + ")", house.look(what), model.look(what));
    }

    private void out() {
        int i = number(0, 20);
        same("out(" + i + ")", house.out(i), model.out(i));
    }

    private void tape() {
        int n = number(0, 60);
        switch (random.nextInt(4)) {
            case 0: same("take()", house.take(), model.take()); break;
            case 1: same("end(" + n + ")", house.end(n) ? 1 : 0, model.end(n) ? 1 : 0); break;
            case 2: feed(new int[] {random.nextInt(), random.nextInt(), random.nextInt(), random.nextInt(), 0}); break;
            default: feed(new int[] {0x20202020, 0x343A2030, 0x31203132, 0x20303132, 0x0A0A2020}); break;
        }
    }
}
