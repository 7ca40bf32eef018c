import java.util.ArrayList;
import java.util.Arrays;
import java.util.HashMap;
import java.util.List;
import java.util.Map;

/**
 * The document again, in its plainest form and by other means than MixCover (lists, arrays a row, every answer
 * counted anew), so that the two can be compared over runs of calls.
 */
final class NaiveCover {
    static final int NONE = -1;

    private static final class Row {
        int[] cells;
        int told;

        Row(int[] cells, int told) {
            this.cells = cells.clone();
            this.told = told;
        }
    }

    /** A never is an array of pairs: column, level. */
    private static final class State {
        int[] levels = new int[0];
        int strength = 2;
        List<int[][]> nevers = new ArrayList<>();
        List<Row> rows = new ArrayList<>();
        int x;

        State copy() {
            State other = new State();
            other.levels = levels.clone();
            other.strength = strength;
            other.nevers = new ArrayList<>(nevers);
            for (Row row : rows) {
                other.rows.add(new Row(row.cells, row.told));
            }
            other.x = x;
            return other;
        }
    }

    private State state = new State();
    private final List<State> past = new ArrayList<>();
    private final State[] shelves = new State[2];
    private final List<Integer> tape = new ArrayList<>();
    private List<int[][]> mixes = new ArrayList<>();
    private Map<Integer, Boolean> known = new HashMap<>();

    // ---- the tape and the plan

    int feed(int a, int b, int c, int d, int e) {
        if (tape.size() > 180) {
            return NONE;
        }
        for (int number : new int[] {a, b, c, d, e}) {
            for (int i = 3; i >= 0; i--) {
                tape.add(number >> 8 * i & 255);
            }
        }
        return tape.size();
    }

    int end(int n) {
        if (n < 0 || n > tape.size()) {
            return NONE;
        }
        while (tape.size() > n) {
            tape.remove(tape.size() - 1);
        }
        return n;
    }

    private static final class Fault extends RuntimeException {
        final int fault;

        Fault(int place, int kind) {
            fault = 8 * place + kind;
        }
    }

    /** A token: kind 'w', '1', 'e' (end) or the byte itself. */
    private static final class Token {
        int kind;
        int place;
        String text = "";

        int value() {
            return new java.math.BigInteger(text).min(java.math.BigInteger.valueOf(99999)).intValue();
        }
    }

    private List<Token> tokens() {
        List<Token> list = new ArrayList<>();
        int i = 0;
        while (i < tape.size()) {
            int b = tape.get(i);
            if (b == 32) {
                i++;
                continue;
            }
            Token token = new Token();
            token.place = i;
            token.kind = kindOf(b);
            do {
                token.text += (char) (int) tape.get(i);
                i++;
            } while (i < tape.size() && (token.kind == 'w' || token.kind == '1') && kindOf(tape.get(i)) == token.kind);
            list.add(token);
        }
        Token last = new Token();
        last.kind = 'e';
        last.place = tape.size();
        list.add(last);
        return list;
    }

    private static int kindOf(int b) {
        if (b >= 97 && b <= 122) {
            return 'w';
        }
        // Bytes that are 'w', '1' or 'e' themselves are letters and digits, so no other byte is taken for these.
        return b >= 48 && b <= 57 ? '1' : b;
    }

    private static Token want(List<Token> list, int at, int kind) {
        Token token = list.get(at);
        if (token.kind != kind) {
            throw new Fault(token.place, 1);
        }
        return token;
    }

    private static int number(List<Token> list, int at, int least, int most) {
        Token token = want(list, at, '1');
        if (token.value() < least || token.value() > most) {
            throw new Fault(token.place, 2);
        }
        return token.value();
    }

    private State parse() {
        State plan = new State();
        List<Token> list = tokens();
        if (!list.get(0).text.equals("levels")) {
            throw new Fault(list.get(0).place, 1);
        }
        int at = 1;
        List<Integer> levels = new ArrayList<>();
        while (levels.size() < 2 || list.get(at).kind == '1') {
            int value = number(list, at, 2, 4);
            if (levels.size() == 8) {
                throw new Fault(list.get(at).place, 3);
            }
            levels.add(value);
            at++;
        }
        plan.levels = levels.stream().mapToInt(Integer::intValue).toArray();
        boolean strong = false;
        while (list.get(at).kind != 'e') {
            want(list, at, ';');
            Token word = list.get(at + 1);
            at += 2;
            if (word.text.equals("strength")) {
                if (strong) {
                    throw new Fault(word.place, 3);
                }
                strong = true;
                plan.strength = number(list, at, 1, Math.min(3, levels.size()));
                at++;
            } else if (word.text.equals("never")) {
                if (plan.nevers.size() == 12) {
                    throw new Fault(word.place, 3);
                }
                at = never(plan, list, at);
            } else {
                throw new Fault(word.place, 1);
            }
        }
        return plan;
    }

    private static int never(State plan, List<Token> list, int from) {
        int at = from;
        List<int[]> cells = new ArrayList<>();
        while (true) {
            int column = number(list, at, 0, plan.levels.length - 1);
            for (int[] cell : cells) {
                if (cell[0] == column) {
                    throw new Fault(list.get(at).place, 2);
                }
            }
            if (cells.size() == 3) {
                throw new Fault(list.get(at).place, 3);
            }
            want(list, at + 1, '.');
            cells.add(new int[] {column, number(list, at + 2, 0, plan.levels[column] - 1)});
            at += 3;
            if (list.get(at).kind != '&') {
                plan.nevers.add(cells.toArray(new int[0][]));
                return at;
            }
            at++;
        }
    }

    int plan() {
        State old = state;
        int size = tape.size();
        try {
            State read = parse();
            read.x = old.x;
            state = read;
            renew();
            if (mixes.size() > 1200 || !can(free())) {
                throw new Fault(size, 4);
            }
            past.clear();
            return mixes.size();
        } catch (Fault fault) {
            state = old;
            renew();
            return -2 - fault.fault;
        } finally {
            tape.clear();
        }
    }

    // ---- mixes

    private void renew() {
        mixes = mixesOf(state.strength);
        known = new HashMap<>();
    }

    private boolean hasPlan() {
        return state.levels.length > 0;
    }

    private List<int[][]> mixesOf(int width) {
        List<int[][]> found = new ArrayList<>();
        if (hasPlan()) {
            pickColumns(width, 0, new ArrayList<>(), found);
        }
        return found;
    }

    private void pickColumns(int width, int from, List<Integer> picked, List<int[][]> found) {
        if (picked.size() == width) {
            pickLevels(picked, new int[width], 0, found);
            return;
        }
        for (int column = from; column < state.levels.length; column++) {
            picked.add(column);
            pickColumns(width, column + 1, picked, found);
            picked.remove(picked.size() - 1);
        }
    }

    private void pickLevels(List<Integer> picked, int[] levels, int at, List<int[][]> found) {
        if (at == levels.length) {
            int[][] mix = new int[levels.length][];
            for (int i = 0; i < mix.length; i++) {
                mix[i] = new int[] {picked.get(i), levels[i]};
            }
            found.add(mix);
            return;
        }
        for (int level = 0; level < state.levels[picked.get(at)]; level++) {
            levels[at] = level;
            pickLevels(picked, levels, at + 1, found);
        }
    }

    private int[] free() {
        int[] row = new int[state.levels.length];
        Arrays.fill(row, NONE);
        return row;
    }

    private static boolean has(int[] row, int[][] cells) {
        for (int[] cell : cells) {
            if (row[cell[0]] != cell[1]) {
                return false;
            }
        }
        return true;
    }

    private boolean broken(int[] row) {
        for (int[][] never : state.nevers) {
            if (has(row, never)) {
                return true;
            }
        }
        return false;
    }

    private boolean can(int[] row) {
        int key = 0;
        for (int level : row) {
            key = key * 5 + level + 1;
        }
        Boolean was = known.get(key);
        if (was == null) {
            was = lawfulFrom(row.clone(), 0, true) > 0;
            known.put(key, was);
        }
        return was;
    }

    private int lawfulFrom(int[] row, int from, boolean oneIsEnough) {
        if (broken(row)) {
            return 0;
        }
        int column = from;
        while (column < row.length && row[column] != NONE) {
            column++;
        }
        if (column == row.length) {
            return 1;
        }
        int found = 0;
        for (int level = 0; level < state.levels[column] && (found == 0 || !oneIsEnough); level++) {
            row[column] = level;
            found += lawfulFrom(row, column + 1, oneIsEnough);
        }
        row[column] = NONE;
        return found;
    }

    /** The row with the mix besides, null if it has another level there. */
    private static int[] joined(int[] row, int[][] mix) {
        int[] both = row.clone();
        for (int[] cell : mix) {
            if (both[cell[0]] != NONE && both[cell[0]] != cell[1]) {
                return null;
            }
            both[cell[0]] = cell[1];
        }
        return both;
    }

    private boolean canMix(int[][] mix) {
        return can(joined(free(), mix));
    }

    private boolean hadBy(int[][] mix, List<Row> rows) {
        for (Row row : rows) {
            if (has(row.cells, mix)) {
                return true;
            }
        }
        return false;
    }

    private List<Integer> opens() {
        List<Integer> found = new ArrayList<>();
        for (int i = 0; i < mixes.size(); i++) {
            if (!hadBy(mixes.get(i), state.rows) && canMix(mixes.get(i))) {
                found.add(i);
            }
        }
        return found;
    }

    private long hopeOf(int[] row, List<Integer> open) {
        long sum = 0;
        for (int i : open) {
            int[] both = joined(row, mixes.get(i));
            if (both != null && can(both)) {
                long weight = 1;
                for (int[] cell : mixes.get(i)) {
                    weight *= row[cell[0]] != NONE ? 60 : 60 / state.levels[cell[0]];
                }
                sum += weight;
            }
        }
        return sum;
    }

    private List<Integer> canLevels(int[] row, int column) {
        List<Integer> found = new ArrayList<>();
        for (int level = 0; level < state.levels[column]; level++) {
            int[] with = row.clone();
            with[column] = level;
            if (can(with)) {
                found.add(level);
            }
        }
        return found;
    }

    private int[] digits(int digits) {
        if (!hasPlan() || digits < 0) {
            return null;
        }
        String text = String.valueOf(digits);
        if (text.length() > state.levels.length) {
            return null;
        }
        while (text.length() < state.levels.length) {
            text = "0" + text;
        }
        int[] row = free();
        for (int i = 0; i < row.length; i++) {
            int digit = text.charAt(i) - '0';
            if (digit != 9 && digit >= state.levels[i]) {
                return null;
            }
            row[i] = digit == 9 ? NONE : digit;
        }
        return row;
    }

    private boolean isRow(int row) {
        return row >= 0 && row < state.rows.size();
    }

    private boolean isColumn(int column) {
        return column >= 0 && column < state.levels.length;
    }

    private void act() {
        past.add(state.copy());
        if (past.size() > 8) {
            past.remove(0);
        }
    }

    // ---- the calls

    int levels(int column) {
        return isColumn(column) ? state.levels[column] : NONE;
    }

    int mix(int mix, int what) {
        if (mix < 0 || mix >= mixes.size() || what < 0 || what > 8) {
            return NONE;
        }
        int[][] cells = mixes.get(mix);
        if (what < 6) {
            return what % 3 < cells.length ? cells[what % 3][what / 3] : -2;
        }
        if (what == 6) {
            return canMix(cells) ? 1 : 0;
        }
        int first = -2;
        int count = 0;
        for (int row = state.rows.size() - 1; row >= 0; row--) {
            if (has(state.rows.get(row).cells, cells)) {
                first = row;
                count++;
            }
        }
        return what == 7 ? count : first;
    }

    int add(int digits) {
        int[] row = digits(digits);
        if (row == null || state.rows.size() == 64) {
            return NONE;
        }
        if (!can(row)) {
            return -2;
        }
        act();
        state.rows.add(new Row(row, 0));
        return state.rows.size();
    }

    int tell(int row, int column, int level) {
        if (!isRow(row) || !isColumn(column) || level < NONE || level >= state.levels[column]) {
            return -4;
        }
        int[] cells = state.rows.get(row).cells.clone();
        int was = cells[column];
        cells[column] = level;
        if (was == level) {
            return -3;
        }
        if (!can(cells)) {
            return -2;
        }
        act();
        state.rows.get(row).cells = cells;
        return was;
    }

    int cell(int row, int column) {
        return isRow(row) && isColumn(column) ? state.rows.get(row).cells[column] : -2;
    }

    int drop(int row) {
        if (!isRow(row)) {
            return NONE;
        }
        act();
        state.rows.remove(row);
        return state.rows.size();
    }

    int open() {
        return hasPlan() ? opens().size() : NONE;
    }

    int openMix(int k) {
        if (!hasPlan() || k < 0) {
            return NONE;
        }
        List<Integer> open = opens();
        return k < open.size() ? open.get(k) : -2;
    }

    long hope(int digits) {
        int[] row = digits(digits);
        return row == null ? NONE : hopeOf(row, opens());
    }

    private void greedRow() {
        List<Integer> open = opens();
        int[] row = free();
        for (int column = 0; column < row.length; column++) {
            long most = -1;
            int best = NONE;
            for (int level : canLevels(row, column)) {
                int[] with = row.clone();
                with[column] = level;
                long hope = hopeOf(with, open);
                if (hope > most) {
                    most = hope;
                    best = level;
                }
            }
            row[column] = best;
        }
        state.rows.add(new Row(row, 0));
    }

    int greed() {
        if (!hasPlan() || state.rows.size() == 64) {
            return NONE;
        }
        if (opens().isEmpty()) {
            return -2;
        }
        act();
        greedRow();
        return gain(state.rows.size() - 1);
    }

    int fill() {
        if (!hasPlan()) {
            return NONE;
        }
        int before = state.rows.size();
        if (before == 64 || opens().isEmpty()) {
            return 0;
        }
        act();
        while (state.rows.size() < 64 && !opens().isEmpty()) {
            greedRow();
        }
        return state.rows.size() - before;
    }

    private static int times(int a, int b, int q) {
        if (q != 4) {
            return a * b % q;
        }
        int product = (a & 1) * b ^ (a >> 1) * (b << 1);
        return product >= 4 ? product ^ 7 : product;
    }

    private static int plus(int a, int b, int q) {
        return q == 4 ? a ^ b : (a + b) % q;
    }

    int field() {
        if (!hasPlan()) {
            return NONE;
        }
        int need = state.levels.length - 1;
        for (int levels : state.levels) {
            need = Math.max(need, levels);
        }
        int q = need == 6 ? 7 : need;
        int count = (int) Math.round(Math.pow(q, state.strength));
        if (count > 64) {
            return -2;
        }
        List<Row> made = new ArrayList<>();
        for (int i = 0; i < count; i++) {
            int[] c = new int[state.strength];
            int rest = i;
            for (int j = c.length - 1; j >= 0; j--) {
                c[j] = rest % q;
                rest /= q;
            }
            int[] row = free();
            for (int k = 0; k < row.length; k++) {
                int value = 0;
                int power = 1;
                for (int j = 0; j < c.length; j++) {
                    value = plus(value, times(c[j], power, q), q);
                    power = times(power, k, q);
                }
                if (k == q) {
                    value = c[c.length - 1];
                }
                row[k] = value < state.levels[k] ? value : NONE;
            }
            if (!can(row)) {
                return -2;
            }
            made.add(new Row(row, 0));
        }
        act();
        state.rows = made;
        return q;
    }

    int widen(int levels) {
        if (!hasPlan() || levels < 2 || levels > 4 || state.levels.length == 8) {
            return NONE;
        }
        State old = state;
        State wide = state.copy();
        wide.levels = Arrays.copyOf(old.levels, old.levels.length + 1);
        wide.levels[old.levels.length] = levels;
        for (Row row : wide.rows) {
            row.cells = Arrays.copyOf(row.cells, wide.levels.length);
            row.cells[old.levels.length] = NONE;
        }
        state = wide;
        renew();
        if (mixes.size() > 1200) {
            state = old;
            renew();
            return NONE;
        }
        state = old;
        act();
        state = wide;
        return mixes.size();
    }

    int settle() {
        if (!hasPlan()) {
            return NONE;
        }
        act();
        int free = 0;
        for (Row row : state.rows) {
            for (int column = 0; column < state.levels.length; column++) {
                if (row.cells[column] == NONE) {
                    free++;
                    List<Integer> open = opens();
                    int most = -1;
                    int best = NONE;
                    for (int level : canLevels(row.cells, column)) {
                        int[] with = row.cells.clone();
                        with[column] = level;
                        int more = 0;
                        for (int i : open) {
                            more += has(with, mixes.get(i)) ? 1 : 0;
                        }
                        if (more > most) {
                            most = more;
                            best = level;
                        }
                    }
                    row.cells[column] = best;
                }
            }
        }
        return free;
    }

    int thin() {
        if (!hasPlan()) {
            return NONE;
        }
        act();
        int taken = 0;
        for (int i = state.rows.size() - 1; i >= 0; i--) {
            List<Row> others = new ArrayList<>(state.rows);
            Row row = others.remove(i);
            boolean needed = false;
            for (int[][] mix : mixes) {
                needed |= has(row.cells, mix) && !hadBy(mix, others);
            }
            if (!needed) {
                state.rows = others;
                taken++;
            }
        }
        return taken;
    }

    private int newOf(Row row, List<Row> ahead) {
        int found = 0;
        for (int[][] mix : mixes) {
            found += has(row.cells, mix) && !hadBy(mix, ahead) ? 1 : 0;
        }
        return found;
    }

    int order() {
        if (!hasPlan()) {
            return NONE;
        }
        act();
        List<Row> placed = new ArrayList<>();
        int useful = 0;
        while (!state.rows.isEmpty()) {
            Row best = null;
            int most = -1;
            for (Row row : state.rows) {
                int more = newOf(row, placed);
                if (more > most) {
                    most = more;
                    best = row;
                }
            }
            useful += most > 0 ? 1 : 0;
            placed.add(best);
            state.rows.remove(best);
        }
        state.rows = placed;
        return useful;
    }

    int drawn() {
        if (!hasPlan() || state.rows.size() == 64) {
            return NONE;
        }
        act();
        int[] row = free();
        int digits = 0;
        for (int column = 0; column < row.length; column++) {
            List<Integer> can = canLevels(row, column);
            state.x = (int) ((state.x * 1103515245L + 12345L) % 2147483648L);
            row[column] = can.get(state.x / 65536 % can.size());
            digits = digits * 10 + row[column];
        }
        state.rows.add(new Row(row, 0));
        return digits;
    }

    int draws(int x) {
        if (x < 0) {
            return NONE;
        }
        int was = state.x;
        state.x = x;
        return was;
    }

    int gain(int row) {
        return isRow(row) ? newOf(state.rows.get(row), state.rows.subList(0, row)) : NONE;
    }

    int least() {
        if (!hasPlan()) {
            return NONE;
        }
        Map<String, Integer> found = new HashMap<>();
        int most = 0;
        for (int[][] mix : mixes) {
            StringBuilder set = new StringBuilder();
            for (int[] cell : mix) {
                set.append(cell[0]);
            }
            if (canMix(mix)) {
                most = Math.max(most, found.merge(set.toString(), 1, Integer::sum));
            }
        }
        return most;
    }

    int lawful(int digits) {
        int[] row = digits(digits);
        return row == null ? NONE : lawfulFrom(row, 0, false);
    }

    int result(int row, int how) {
        if (!isRow(row) || how < 0 || how > 2) {
            return NONE;
        }
        int was = state.rows.get(row).told;
        if (was == how) {
            return -2;
        }
        act();
        state.rows.get(row).told = how;
        return was;
    }

    private List<Integer> guilties(List<int[][]> all) {
        List<Integer> found = new ArrayList<>();
        for (int i = 0; i < all.size(); i++) {
            boolean byAll = true;
            int failed = 0;
            for (Row row : state.rows) {
                boolean has = has(row.cells, all.get(i));
                failed += row.told == 2 ? 1 : 0;
                byAll &= row.told == 2 ? has : row.told == 0 || !has;
            }
            if (byAll && failed > 0) {
                found.add(i);
            }
        }
        return found;
    }

    int guilty(int columns, int k) {
        if (!hasPlan() || columns < 1 || columns > state.strength || k < NONE) {
            return NONE;
        }
        List<Integer> found = guilties(mixesOf(columns));
        return k == NONE ? found.size() : k < found.size() ? found.get(k) : -2;
    }

    int ask(int what) {
        if (!hasPlan() || what < 0 || what > 1) {
            return NONE;
        }
        List<Integer> found = guilties(mixes);
        int best = -2;
        int most = -2;
        for (int i = 0; i < state.rows.size() && !found.isEmpty(); i++) {
            if (state.rows.get(i).told == 0) {
                int has = 0;
                for (int mix : found) {
                    has += has(state.rows.get(i).cells, mixes.get(mix)) ? 1 : 0;
                }
                int lesser = Math.min(has, found.size() - has);
                if (lesser > most) {
                    most = lesser;
                    best = i;
                }
            }
        }
        return what == 0 ? best : most;
    }

    int undo() {
        if (past.isEmpty()) {
            return NONE;
        }
        state = past.remove(past.size() - 1);
        renew();
        return past.size();
    }

    int keep(int shelf) {
        if (shelf < 0 || shelf > 1 || !hasPlan()) {
            return NONE;
        }
        shelves[shelf] = state.copy();
        return state.rows.size();
    }

    int back(int shelf) {
        if (shelf < 0 || shelf > 1) {
            return NONE;
        }
        if (shelves[shelf] == null) {
            return -2;
        }
        state = shelves[shelf].copy();
        past.clear();
        renew();
        return state.rows.size();
    }

    int count(int what) {
        int whole = 0;
        int free = 0;
        int passed = 0;
        int failed = 0;
        for (Row row : state.rows) {
            int here = 0;
            for (int level : row.cells) {
                here += level == NONE ? 1 : 0;
            }
            free += here;
            whole += here == 0 ? 1 : 0;
            passed += row.told == 1 ? 1 : 0;
            failed += row.told == 2 ? 1 : 0;
        }
        switch (what) {
            case 0: return state.levels.length;
            case 1: return hasPlan() ? state.strength : 0;
            case 2: return mixes.size();
            case 3: return (int) mixes.stream().filter(this::canMix).count();
            case 4: return state.nevers.size();
            case 5: return state.rows.size();
            case 6: return whole;
            case 7: return free;
            case 8: return passed;
            case 9: return failed;
            case 10: return past.size();
            case 11: return state.x;
            case 12: return tape.size();
            default: return NONE;
        }
    }
}
