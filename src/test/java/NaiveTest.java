import java.util.Random;

/** Runs of calls, chosen by a fixed seed, on MixCover and on NaiveCover at once: each answer has to be the same. */
public final class NaiveTest {
    private static final int CALLS = 120;
    private MixCover cover = new MixCover();
    private NaiveCover naive = new NaiveCover();
    private final Random random;
    private final String run;
    private int columns = 2;
    private boolean small;

    private NaiveTest(int seed) {
        random = new Random(seed);
        run = "seed " + seed;
    }

    public static void main(String[] args) {
        int from = args.length > 0 ? Integer.parseInt(args[0]) : 0;
        int runs = args.length > 1 ? Integer.parseInt(args[1]) : 250;
        for (int seed = from; seed < from + runs; seed++) {
            new NaiveTest(seed).go();
        }
        Check.endOf("NaiveTest");
    }

    private void go() {
        small = random.nextInt(3) != 0;
        if (random.nextInt(5) != 0) {
            tellPlan(text(), 0);
        }
        for (int call = 1; call < CALLS; call++) {
            one(call);
        }
    }

    private int pick(int n) {
        return random.nextInt(n);
    }

    /** Mostly from 0 to n - 1, at times beside. */
    private int near(int n) {
        return pick(12) == 0 ? pick(5) - 2 + (pick(2) == 0 ? n : 0) : pick(Math.max(1, n));
    }

    private String blanks() {
        return " ".repeat(pick(4) == 0 ? pick(3) : 0);
    }

    private String text() {
        StringBuilder text = new StringBuilder(blanks() + "levels");
        columns = small ? 2 + pick(4) : 2 + pick(7);
        int[] levels = new int[columns];
        for (int i = 0; i < columns; i++) {
            levels[i] = 2 + pick(small ? 2 : 3);
            text.append(' ').append(blanks()).append(levels[i]);
        }
        int strength = pick(5) == 0 ? 0 : 1 + pick(Math.min(3, columns));
        if (strength > 0 && pick(2) == 0) {
            text.append(blanks()).append(';').append("strength").append(strength);
            strength = 0;
        }
        int nevers = pick(3) == 0 ? 0 : pick(pick(2) == 0 ? 4 : 13);
        for (int i = 0; i < nevers && text.length() < 180; i++) {
            text.append(blanks()).append(';').append(blanks()).append("never");
            int column = pick(columns);
            int cells = 1 + pick(5) / 2;
            for (int c = 0; c < cells && c < columns; c++) {
                text.append(c == 0 ? "" : "&").append(blanks()).append(column).append('.').append(pick(levels[column]));
                column = (column + 1 + pick(2)) % columns;
            }
        }
        if (strength > 0 && text.length() < 185) {
            text.append("; strength ").append(strength);
        }
        return text.toString();
    }

    private String spoiled(String text) {
        String signs = "levels strength never 0123456789.&; Az\u0000~";
        StringBuilder spoiled = new StringBuilder(text);
        int times = pick(3);
        for (int i = 0; i < times; i++) {
            int place = pick(spoiled.length());
            char sign = signs.charAt(pick(signs.length()));
            switch (pick(4)) {
                case 0: spoiled.setCharAt(place, sign); break;
                case 1: spoiled.insert(place, sign); break;
                case 2: spoiled.setLength(place + 1); break;
                default: spoiled.append(pick(2) == 0 ? ";strength 1" : ";never 0.0");
            }
        }
        if (spoiled.length() > 200) {
            spoiled.setLength(200);
        }
        return spoiled.toString();
    }

    private void same(int call, String name, long got, long want) {
        Check.due(run + " call " + call + ": " + name, got, want);
    }

    private void feedBoth(int call, String text) {
        for (int i = 0; i < text.length(); i += 20) {
            int[] n = new int[5];
            for (int j = 0; j < 5; j++) {
                n[j] = Check.four(text, i + 4 * j);
            }
            same(call, "feed", cover.feed(n[0], n[1], n[2], n[3], n[4]), naive.feed(n[0], n[1], n[2], n[3], n[4]));
        }
    }

    private void tellPlan(String text, int call) {
        same(call, "end", cover.end(0), naive.end(0));
        feedBoth(call, text);
        same(call, "end", cover.end(text.length()), naive.end(text.length()));
        same(call, "plan \"" + text + "\"", cover.plan(), naive.plan());
        columns = Math.max(2, naive.count(0));
    }

    private int digits() {
        if (pick(30) == 0) {
            return random.nextInt();
        }
        int digits = 0;
        int freeness = 1 + pick(5);
        for (int i = 0; i < naive.count(0); i++) {
            digits = digits * 10 + (pick(freeness) == 0 ? near(naive.levels(i)) + 10 : pick(20) == 0 ? 18 : 19) % 10;
        }
        return digits;
    }

    private int row() {
        return near(naive.count(5));
    }

    private void one(int call) {
        int a;
        int b;
        int c;
        switch (pick(34)) {
            case 0:
                if (pick(4) == 0) {
                    String text = text();
                    tellPlan(pick(3) == 0 ? text : spoiled(text), call);
                }
                break;
            case 1: a = near(13); same(call, "count " + a, cover.count(a), naive.count(a)); break;
            case 2: a = near(columns); same(call, "levels " + a, cover.levels(a), naive.levels(a)); break;
            case 3: case 4:
                a = near(naive.count(2));
                b = near(9);
                same(call, "mix " + a + " " + b, cover.mix(a, b), naive.mix(a, b));
                break;
            case 5: case 6: case 7: a = digits(); same(call, "add " + a, cover.add(a), naive.add(a)); break;
            case 8: case 9: case 10:
                a = row();
                b = near(columns);
                c = near(5) - 1;
                same(call, "tell " + a + " " + b + " " + c, cover.tell(a, b, c), naive.tell(a, b, c));
                break;
            case 11: a = row(); same(call, "drop " + a, cover.drop(a), naive.drop(a)); break;
            case 12: same(call, "open", cover.open(), naive.open()); break;
            case 13: a = near(20); same(call, "openMix " + a, cover.openMix(a), naive.openMix(a)); break;
            case 14: a = digits(); same(call, "hope " + a, cover.hope(a), naive.hope(a)); break;
            case 15: case 16: same(call, "greed", cover.greed(), naive.greed()); break;
            case 17:
                if (pick(4) == 0) {
                    same(call, "fill", cover.fill(), naive.fill());
                }
                break;
            case 18:
                if (pick(3) == 0) {
                    same(call, "field", cover.field(), naive.field());
                }
                break;
            case 19:
                if (pick(3) == 0) {
                    a = 1 + near(4);
                    same(call, "widen " + a, cover.widen(a), naive.widen(a));
                    columns = Math.max(2, naive.count(0));
                }
                break;
            case 20: same(call, "settle", cover.settle(), naive.settle()); break;
            case 21: same(call, "thin", cover.thin(), naive.thin()); break;
            case 22: same(call, "order", cover.order(), naive.order()); break;
            case 23: case 24: same(call, "drawn", cover.drawn(), naive.drawn()); break;
            case 25: a = pick(4) == 0 ? random.nextInt() : pick(5); same(call, "draws " + a, cover.draws(a), naive.draws(a)); break;
            case 26: a = row(); same(call, "gain " + a, cover.gain(a), naive.gain(a)); break;
            case 27:
                same(call, "least", cover.least(), naive.least());
                a = digits();
                same(call, "lawful " + a, cover.lawful(a), naive.lawful(a));
                break;
            case 28: case 29: a = row(); b = near(3); same(call, "result " + a + " " + b, cover.result(a, b), naive.result(a, b)); break;
            case 30: a = near(4); b = near(4) - 1; same(call, "guilty " + a + " " + b, cover.guilty(a, b), naive.guilty(a, b)); break;
            case 31: a = near(2); same(call, "ask " + a, cover.ask(a), naive.ask(a)); break;
            case 32:
                for (int i = pick(4); i > 0; i--) {
                    same(call, "undo", cover.undo(), naive.undo());
                }
                columns = Math.max(2, naive.count(0));
                break;
            default:
                a = near(2);
                if (pick(3) == 0) {
                    same(call, "back " + a, cover.back(a), naive.back(a));
                    columns = Math.max(2, naive.count(0));
                } else {
                    same(call, "keep " + a, cover.keep(a), naive.keep(a));
                }
        }
        if (call % 5 == 0) {
            sameState(call);
        }
    }

    private void sameState(int call) {
        for (int what = 0; what <= 12; what++) {
            same(call, "then count " + what, cover.count(what), naive.count(what));
        }
        for (int row = 0; row < naive.count(5); row++) {
            for (int column = 0; column < naive.count(0); column++) {
                same(call, "then cell " + row + " " + column, cover.cell(row, column), naive.cell(row, column));
            }
        }
    }
}
