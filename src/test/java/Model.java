import java.util.ArrayDeque;
import java.util.ArrayList;
import java.util.Deque;
import java.util.HashMap;
import java.util.HashSet;
import java.util.List;
import java.util.Map;
import java.util.Set;
import java.util.TreeMap;

/**
 * The document once more, told as plainly as it can be and without a thought of speed: laws are kept as texts and
 * asked letter by letter, everything is gone through anew for each call. Only the answers are alike.
 */
final class Model {
    /** A mark: 0, 1, 2, and since when. */
    record M(int is, int from, int to) {
        static final M NOT = new M(0, 0, 0);

        static M join(M a, M b) {
            if (a.is == 0 && b.is == 0) {
                return NOT;
            }
            int is = a.is == 2 && b.is == 2 ? 2 : 1;
            if (a.is == 0) {
                return new M(is, b.from, b.to);
            }
            if (b.is == 0) {
                return new M(is, a.from, a.to);
            }
            return new M(is, Math.min(a.from, b.from), Math.max(a.to, b.to));
        }
    }

    static final class Act {
        int kind, a, b, minute, told, struck = -1, number;
        boolean sure;
    }

    record Mistake(int thing, int mark, int minute, int told) { }

    record Feast(int month, int first, int days) { }

    record Kitchen(int school, int x, int y) { }

    record Pass(int lot, int a, int b, int n, boolean sealed) { }

    record Visit(int kitchen, int visitor, int day) { }

    record Two(int kitchen, int visitor) { }

    int now;
    long seed = 1;
    int v = 7;
    final List<Feast> feasts = new ArrayList<>();
    final List<Integer> tape = new ArrayList<>();
    final Map<String, String> laws = new HashMap<>();
    final List<Integer> things = new ArrayList<>();
    final List<Act> acts = new ArrayList<>();
    final List<Mistake> mistakes = new ArrayList<>();
    final List<Kitchen> kitchens = new ArrayList<>();
    final List<Integer> overseers = new ArrayList<>();
    final Set<String> trusts = new HashSet<>();
    final List<int[]> lots = new ArrayList<>();
    final List<Pass> passes = new ArrayList<>();
    final List<int[]> visitors = new ArrayList<>();
    final List<Visit> visits = new ArrayList<>();
    final Map<String, Map<Integer, Boolean>> words = new HashMap<>();

    static boolean in(int i, int size) {
        return 0 <= i && i < size;
    }

    static boolean minute(int i) {
        return in(i, 1440000);
    }

    boolean now(int minute) {
        if (!minute(minute) || minute < now) {
            return false;
        }
        now = minute;
        return true;
    }

    boolean feast(int month, int first, int days) {
        if (feasts.size() == 6 || !in(month, 12) || !in(first, 29) || days < 1 || days > 10) {
            return false;
        }
        feasts.add(new Feast(month, first, days));
        return true;
    }

    int isFeast(int day) {
        if (!in(day, 1000)) {
            return -1;
        }
        for (Feast feast : feasts) {
            for (int month = feast.month; month < 100; month += 12) {
                int begin = month * 2953 / 100 + feast.first;
                if (day >= begin && day <= begin + feast.days - 1) {
                    return 1;
                }
            }
        }
        return 0;
    }

    int moon(int day, int what) {
        if (!in(day, 1000) || !in(what, 3)) {
            return -1;
        }
        int month = 100;
        while (month * 2953 / 100 > day) {
            month--;
        }
        return what == 0 ? month : what == 1 ? month % 12 : day - month * 2953 / 100;
    }

    int feed(int a, int b, int c, int d, int e) {
        if (tape.size() > 220) {
            return -1;
        }
        for (int four : new int[] {a, b, c, d, e}) {
            for (byte one : java.nio.ByteBuffer.allocate(4).putInt(four).array()) {
                tape.add(one & 255);
            }
        }
        return tape.size();
    }

    int law(int school, boolean feast, int n) {
        if (!in(school, 2) || n < 0 || n > tape.size()) {
            return -1;
        }
        StringBuilder text = new StringBuilder();
        for (int k = 0; k < n; k++) {
            text.append((char) (int) tape.get(k));
        }
        tape.clear();
        int fault = n == 0 ? 0 : fault(text.toString());
        if (fault == 0) {
            laws.put(school + " " + feast, text.toString());
        }
        return fault;
    }

    private enum Place { KIND, COLON, PIECE, MARK, BEHIND_MARK, NUMBER, BEHIND_PIECE, ON, HOW, WHICH, BEHIND_EFFECT }

    /** The first fault, found by going from sign to sign with the open ones on a pile. */
    static int fault(String text) {
        Place place = Place.KIND;
        Deque<Character> open = new ArrayDeque<>();
        int rules = 0;
        int effects = 0;
        int digits = 0;
        int signs = 0;
        for (int at = 0; at <= text.length(); at++) {
            char c = at < text.length() ? text.charAt(at) : '\uffff';
            int wrong = 1000 + at;
            if (place == Place.BEHIND_MARK || place == Place.NUMBER) {
                if (place == Place.BEHIND_MARK && c == '<') {
                    place = Place.NUMBER;
                    digits = 0;
                    continue;
                }
                if (place == Place.NUMBER && c >= '0' && c <= '9') {
                    digits++;
                    if (digits == 7) {
                        return 2000 + at;
                    }
                    continue;
                }
                if (place == Place.NUMBER && digits == 0) {
                    return wrong;
                }
                place = Place.BEHIND_PIECE;
                while (!open.isEmpty() && open.peek() == '!') {
                    open.pop();
                }
            }
            switch (place) {
                case KIND -> {
                    if ("tkcl".indexOf(c) < 0) {
                        return wrong;
                    }
                    rules++;
                    if (rules == 25) {
                        return 4000 + at;
                    }
                    place = Place.COLON;
                }
                case COLON -> {
                    if (c != ':') {
                        return wrong;
                    }
                    place = Place.PIECE;
                }
                case PIECE -> {
                    if (c == '!' || c == '(') {
                        if (open.size() == 8) {
                            return 5000 + at;
                        }
                        open.push(c);
                    } else if (c == '1' || c == 'x' || c == 'y') {
                        signs++;
                        if (signs == 81) {
                            return 6000 + at;
                        }
                        place = Place.MARK;
                        if (c == '1') {
                            place = Place.BEHIND_PIECE;
                            while (!open.isEmpty() && open.peek() == '!') {
                                open.pop();
                            }
                        }
                    } else {
                        return wrong;
                    }
                }
                case MARK -> {
                    if (c < 'a' || c > 'h') {
                        return wrong;
                    }
                    place = Place.BEHIND_MARK;
                }
                case BEHIND_PIECE -> {
                    if (c == '&' || c == '|') {
                        place = Place.PIECE;
                    } else if (c == ')' && !open.isEmpty()) {
                        open.pop();
                        while (!open.isEmpty() && open.peek() == '!') {
                            open.pop();
                        }
                    } else if (c == '>' && open.isEmpty()) {
                        place = Place.ON;
                        effects = 0;
                    } else {
                        return wrong;
                    }
                }
                case ON -> {
                    if (c != 'x' && c != 'y') {
                        return wrong;
                    }
                    effects++;
                    if (effects == 5) {
                        return 3000 + at;
                    }
                    place = Place.HOW;
                }
                case HOW -> {
                    if (c != '+' && c != '-') {
                        return wrong;
                    }
                    place = Place.WHICH;
                }
                case WHICH -> {
                    if (c < 'a' || c > 'h') {
                        return wrong;
                    }
                    place = Place.BEHIND_EFFECT;
                }
                case BEHIND_EFFECT -> {
                    if (at == text.length()) {
                        return 0;
                    }
                    if (c != ',' && c != ';') {
                        return wrong;
                    }
                    place = c == ',' ? Place.ON : Place.KIND;
                }
                default -> throw new IllegalStateException();
            }
        }
        throw new IllegalStateException();
    }

    int rules(int school, boolean feast) {
        if (!in(school, 2)) {
            return -1;
        }
        String text = laws.getOrDefault(school + " " + feast, "");
        return text.isEmpty() ? 0 : text.split(";").length;
    }

    int thing(int marks) {
        if (things.size() == 20 || marks < 0 || marks > 255) {
            return -1;
        }
        things.add(marks);
        return things.size() - 1;
    }

    int act(int kind, int a, int b, int minute, boolean sure) {
        boolean pair = kind == 0 || kind == 1;
        if (acts.size() == 200 || !in(kind, 4) || !in(a, things.size()) || !minute(minute) || minute > now) {
            return -1;
        }
        if (pair ? !in(b, things.size()) || a == b : b != -1) {
            return -1;
        }
        Act act = new Act();
        act.kind = kind;
        act.a = a;
        act.b = b;
        act.minute = minute;
        act.sure = sure;
        act.told = now;
        act.number = acts.size();
        acts.add(act);
        return act.number;
    }

    boolean strike(int i) {
        if (!in(i, acts.size()) || acts.get(i).struck != -1) {
            return false;
        }
        acts.get(i).struck = now;
        return true;
    }

    int mistake(int thing, int mark, int minute) {
        if (mistakes.size() == 10 || !in(thing, things.size()) || !in(mark, 8) || !minute(minute) || minute > now) {
            return -1;
        }
        mistakes.add(new Mistake(thing, mark, minute, now));
        return mistakes.size() - 1;
    }

    /** All that is known, one behind the other: acts and mistakes (by their numbers). */
    private List<Object> known(int upTo, int t, int without) {
        TreeMap<Long, Object> row = new TreeMap<>();
        for (int i = 0; i < mistakes.size(); i++) {
            Mistake mistake = mistakes.get(i);
            if (i != without && mistake.told <= t && mistake.minute <= upTo) {
                row.put(mistake.minute * 1000L + i, mistake);
            }
        }
        for (Act act : acts) {
            if (act.told <= t && (act.struck == -1 || act.struck > t) && act.minute <= upTo) {
                row.put(act.minute * 1000L + 500 + act.number, act);
            }
        }
        return new ArrayList<>(row.values());
    }

    private M[][] begin() {
        M[][] state = new M[things.size()][8];
        for (int k = 0; k < things.size(); k++) {
            for (int m = 0; m < 8; m++) {
                state[k][m] = (things.get(k) & 1 << m) != 0 ? new M(2, 0, 0) : M.NOT;
            }
        }
        return state;
    }

    private M[][] whatIs(int school, int upTo, int t, int without, Act last) {
        M[][] state = begin();
        for (Object one : known(upTo, t, without)) {
            if (one instanceof Mistake mistake) {
                state[mistake.thing][mistake.mark] = new M(2, mistake.minute, mistake.minute);
            } else {
                perform(state, school, (Act) one);
                if (one == last) {
                    break;
                }
            }
        }
        return state;
    }

    private void perform(M[][] state, int school, Act act) {
        M[][] ahead = new M[state.length][];
        for (int k = 0; k < state.length; k++) {
            ahead[k] = state[k].clone();
        }
        String law = laws.getOrDefault(school + " true", "");
        if (law.isEmpty() || isFeast(act.minute / 1440) != 1) {
            law = laws.getOrDefault(school + " false", "");
        }
        for (int turn = 0; turn < (act.b == -1 ? 1 : 2); turn++) {
            int x = turn == 0 ? act.a : act.b;
            int y = turn == 0 ? act.b : act.a;
            for (String rule : law.split(";")) {
                if (!rule.isEmpty() && "tkcl".indexOf(rule.charAt(0)) == act.kind) {
                    String[] halves = rule.substring(2).split(">");
                    int so = ask(halves[0], ahead, x, y, act.minute);
                    for (String effect : halves[1].split(",")) {
                        int on = effect.charAt(0) == 'x' ? x : y;
                        if (on != -1 && so > 0) {
                            int m = effect.charAt(2) - 'a';
                            M would = effect.charAt(1) == '+' ? new M(2, act.minute, act.minute) : M.NOT;
                            state[on][m] = so == 2 ? would : M.join(state[on][m], would);
                        }
                    }
                }
            }
        }
        if (!act.sure) {
            for (int k = 0; k < state.length; k++) {
                if (k == act.a || k == act.b) {
                    for (int m = 0; m < 8; m++) {
                        state[k][m] = M.join(ahead[k][m], state[k][m]);
                    }
                }
            }
        }
    }

    private static int ask(String text, M[][] state, int x, int y, int minute) {
        for (char between : new char[] {'|', '&'}) {
            int depth = 0;
            for (int at = 0; at < text.length(); at++) {
                char c = text.charAt(at);
                depth += c == '(' ? 1 : c == ')' ? -1 : 0;
                if (c == between && depth == 0) {
                    int left = ask(text.substring(0, at), state, x, y, minute);
                    int right = ask(text.substring(at + 1), state, x, y, minute);
                    return between == '|' ? Math.max(left, right) : Math.min(left, right);
                }
            }
        }
        char c = text.charAt(0);
        if (c == '!') {
            return 2 - ask(text.substring(1), state, x, y, minute);
        }
        if (c == '(') {
            return ask(text.substring(1, text.length() - 1), state, x, y, minute);
        }
        if (c == '1') {
            return 2;
        }
        int thing = c == 'x' ? x : y;
        M mark = thing == -1 ? M.NOT : state[thing][text.charAt(1) - 'a'];
        if (text.length() == 2 || mark.is == 0) {
            return mark.is;
        }
        int n = Integer.parseInt(text.substring(3));
        int less = 0;
        for (int at = mark.from; at <= mark.to; at++) {
            less += minute - at < n ? 1 : 0;
        }
        if (less == 0) {
            return 0;
        }
        return less == mark.to - mark.from + 1 && mark.is == 2 ? 2 : 1;
    }

    private M asked(int school, int thing, int mark, int upTo, int t) {
        if (!in(school, 2) || !in(thing, things.size()) || !in(mark, 8) || !minute(upTo) || !minute(t)) {
            return null;
        }
        return whatIs(school, upTo, t, -1, null)[thing][mark];
    }

    int mark(int school, int thing, int mark, int upTo, int t) {
        M m = asked(school, thing, mark, upTo, t);
        return m == null ? -1 : m.is;
    }

    int since(int school, int thing, int mark, int upTo, int t, int what) {
        M m = asked(school, thing, mark, upTo, t);
        return m == null || m.is == 0 || !in(what, 2) ? -1 : what == 0 ? m.from : m.to;
    }

    private List<int[]> quarrels() {
        List<int[]> all = new ArrayList<>();
        M[][] one = whatIs(0, now, now, -1, null);
        M[][] other = whatIs(1, now, now, -1, null);
        for (int k = 0; k < things.size(); k++) {
            for (int m = 0; m < 8; m++) {
                if (one[k][m].is != other[k][m].is) {
                    all.add(new int[] {k, m, one[k][m].is, other[k][m].is});
                }
            }
        }
        return all;
    }

    int quarrel(int i, int what) {
        List<int[]> all = quarrels();
        return in(i, all.size()) && in(what, 4) ? all.get(i)[what] : -1;
    }

    private boolean traced(int i, int school, int thing) {
        return in(i, mistakes.size()) && in(school, 2) && in(thing, things.size());
    }

    private static int otherwise(M[] one, M[] other) {
        int most = 0;
        for (int m = 0; m < 8; m++) {
            most = Math.max(most, Math.abs(one[m].is - other[m].is));
        }
        return most;
    }

    int leads(int i, int school, int thing, int upTo) {
        if (!traced(i, school, thing) || !minute(upTo)) {
            return -1;
        }
        return otherwise(whatIs(school, upTo, now, -1, null)[thing], whatIs(school, upTo, now, i, null)[thing]);
    }

    int reached(int i, int school, int thing) {
        if (!traced(i, school, thing) || mistakes.get(i).thing == thing) {
            return -1;
        }
        for (Object one : known(now, now, -1)) {
            if (one instanceof Act act) {
                M[][] with = whatIs(school, now, now, -1, act);
                M[][] without = whatIs(school, now, now, i, act);
                if (otherwise(with[thing], without[thing]) > 0) {
                    return act.number;
                }
            }
        }
        return -1;
    }

    int way(int i, int school, int thing, int k) {
        if (!traced(i, school, thing)) {
            return -1;
        }
        int origin = mistakes.get(i).thing;
        List<Integer> row = new ArrayList<>();
        if (thing == origin || reached(i, school, thing) != -1) {
            row.add(thing);
            int at = thing;
            while (at != origin) {
                int act = reached(i, school, at);
                if (act == -1 || acts.get(act).b == -1) {
                    break;
                }
                at = acts.get(act).a == at ? acts.get(act).b : acts.get(act).a;
                if (row.contains(at)) {
                    break;
                }
                row.add(at);
            }
        }
        return in(k, row.size()) ? row.get(k) : -1;
    }

    int mend(int i, int school, int thing) {
        if (!traced(i, school, thing)) {
            return -1;
        }
        M[][] with = whatIs(school, now, now, -1, null);
        M[][] without = whatIs(school, now, now, i, null);
        Act cleansing = new Act();
        cleansing.kind = 2;
        cleansing.a = thing;
        cleansing.b = -1;
        cleansing.minute = now;
        cleansing.sure = true;
        for (int times = 0; times < 6; times++) {
            if (otherwise(with[thing], without[thing]) == 0) {
                return times;
            }
            perform(with, school, cleansing);
        }
        return -1;
    }

    int kitchen(int school, int overseer, int x, int y) {
        if (kitchens.size() == 8 || !in(school, 2) || !in(overseer, 8) || !in(x, 100) || !in(y, 100)) {
            return -1;
        }
        kitchens.add(new Kitchen(school, x, y));
        overseers.add(overseer);
        return kitchens.size() - 1;
    }

    boolean oversee(int kitchen, int overseer) {
        if (!in(kitchen, kitchens.size()) || !in(overseer, 8)) {
            return false;
        }
        overseers.set(kitchen, overseer);
        return true;
    }

    boolean trust(int school, int overseer, boolean is) {
        if (!in(school, 2) || !in(overseer, 8)) {
            return false;
        }
        return is ? trusts.add(school + " " + overseer) : trusts.remove(school + " " + overseer);
    }

    int lot(int kitchen, int units) {
        if (lots.size() == 10 || !in(kitchen, kitchens.size()) || units < 1 || units > 100000) {
            return -1;
        }
        lots.add(new int[] {kitchen, units});
        return lots.size() - 1;
    }

    boolean pass(int lot, int a, int b, int n, boolean sealed) {
        if (passes.size() == 100 || !in(lot, lots.size()) || !in(b, kitchens.size()) || a == b || n < 1) {
            return false;
        }
        if (!in(a, kitchens.size()) || units(lot, a) < n) {
            return false;
        }
        passes.add(new Pass(lot, a, b, n, sealed));
        return true;
    }

    int units(int lot, int kitchen) {
        if (!in(lot, lots.size()) || !in(kitchen, kitchens.size())) {
            return -1;
        }
        int sum = lots.get(lot)[0] == kitchen ? lots.get(lot)[1] : 0;
        for (Pass pass : passes) {
            if (pass.lot == lot) {
                sum += pass.b == kitchen ? pass.n : pass.a == kitchen ? -pass.n : 0;
            }
        }
        return sum;
    }

    int good(int school, int lot, int kitchen, int what) {
        if (!in(school, 2) || units(lot, kitchen) == -1 || !in(what, 2)) {
            return -1;
        }
        int[][] all = new int[8][3];
        int made = lots.get(lot)[0];
        int units = lots.get(lot)[1];
        boolean trusted = trusts.contains(school + " " + overseers.get(made));
        all[made] = new int[] {trusted ? units : 0, trusted ? units : 0, units};
        for (Pass pass : passes) {
            if (pass.lot != lot) {
                continue;
            }
            int[] from = all[pass.a];
            int goLeast = Math.max(pass.n - (from[2] - from[0]), 0);
            int goMost = Math.min(pass.n, from[1]);
            int stayLeast = Math.max(from[0] - pass.n, 0);
            int stayMost = Math.min(from[1], from[2] - pass.n);
            boolean good = pass.sealed && trusts.contains(school + " " + overseers.get(pass.a));
            all[pass.a] = new int[] {stayLeast, stayMost, from[2] - pass.n};
            int[] to = all[pass.b];
            all[pass.b] = new int[] {to[0] + (good ? goLeast : 0), to[1] + (good ? goMost : 0), to[2] + pass.n};
        }
        return all[kitchen][what];
    }

    int recall(int lot) {
        if (!in(lot, lots.size())) {
            return -1;
        }
        int bits = 1 << lots.get(lot)[0];
        for (Pass pass : passes) {
            bits |= pass.lot == lot ? 1 << pass.b : 0;
        }
        return bits;
    }

    int visitor(int school, int weight) {
        if (visitors.size() == 6 || !in(school, 2) || weight < 1 || weight > 9) {
            return -1;
        }
        visitors.add(new int[] {school, weight});
        return visitors.size() - 1;
    }

    boolean seed(int newSeed, int newV) {
        if (newSeed < 0 || newV < 1 || newV > 99) {
            return false;
        }
        seed = newSeed;
        v = newV;
        return true;
    }

    private Visit latest(int kitchen) {
        Visit latest = null;
        for (Visit visit : visits) {
            latest = visit.kitchen == kitchen ? visit : latest;
        }
        return latest;
    }

    private boolean overdue(int kitchen) {
        Visit latest = latest(kitchen);
        return now / 1440 - (latest == null ? 0 : latest.day) > v;
    }

    private List<Two> twos() {
        List<Two> row = new ArrayList<>();
        for (int k = 0; k < kitchens.size(); k++) {
            Visit latest = latest(k);
            for (int one = 0; one < visitors.size(); one++) {
                boolean visited = latest != null && latest.day == now / 1440;
                boolean again = latest != null && latest.visitor == one;
                if (!visited && !again && visitors.get(one)[0] == kitchens.get(k).school) {
                    row.add(new Two(k, one));
                }
            }
        }
        List<Two> urgent = row.stream().filter(two -> overdue(two.kitchen)).toList();
        return urgent.isEmpty() ? row : urgent;
    }

    int draw() {
        List<Two> row = twos();
        if (row.isEmpty() || visits.size() == 400) {
            return -1;
        }
        seed = java.math.BigInteger.valueOf(seed).multiply(java.math.BigInteger.valueOf(1103515245))
                .add(java.math.BigInteger.valueOf(12345)).mod(java.math.BigInteger.valueOf(2147483648L)).longValue();
        Two two = row.get((int) (seed / 65536 % row.size()));
        visits.add(new Visit(two.kitchen, two.visitor, now / 1440));
        return two.kitchen * 10 + two.visitor;
    }

    int row() {
        return twos().size();
    }

    int visit(int i, int what) {
        if (!in(i, visits.size()) || !in(what, 3)) {
            return -1;
        }
        Visit visit = visits.get(i);
        return what == 0 ? visit.kitchen : what == 1 ? visit.visitor : visit.day;
    }

    private int tourLength;
    private List<Integer> tourRow;

    private void plan(int visitor) {
        List<Integer> left = new ArrayList<>();
        for (int k = 0; k < kitchens.size(); k++) {
            for (Visit visit : visits) {
                if (visit.kitchen == k && visit.visitor == visitor && visit.day == now / 1440) {
                    left.add(k);
                }
            }
        }
        tourLength = Integer.MAX_VALUE;
        tourRow = new ArrayList<>();
        tryAll(new ArrayList<>(), left, 0);
    }

    // Rows are tried from the least one on, so the first of like ones is the least.
    private void tryAll(List<Integer> row, List<Integer> left, int length) {
        if (left.isEmpty() && length < tourLength) {
            tourLength = length;
            tourRow = new ArrayList<>(row);
        }
        for (int k = 0; k < left.size(); k++) {
            int next = left.remove(k);
            int step = 0;
            if (!row.isEmpty()) {
                Kitchen a = kitchens.get(row.get(row.size() - 1));
                Kitchen b = kitchens.get(next);
                step = Math.abs(a.x - b.x) + Math.abs(a.y - b.y);
            }
            row.add(next);
            tryAll(row, left, length + step);
            row.remove(row.size() - 1);
            left.add(k, next);
        }
    }

    int tour(int visitor) {
        if (!in(visitor, visitors.size())) {
            return -1;
        }
        plan(visitor);
        return tourRow.isEmpty() ? -1 : tourLength;
    }

    int stop(int visitor, int k) {
        if (!in(visitor, visitors.size())) {
            return -1;
        }
        plan(visitor);
        return in(k, tourRow.size()) ? tourRow.get(k) : -1;
    }

    boolean word(int visitor, int thing, int mark, boolean has) {
        if (!in(visitor, visitors.size()) || !in(thing, things.size()) || !in(mark, 8)) {
            return false;
        }
        words.computeIfAbsent(thing + " " + mark, key -> new TreeMap<>()).put(visitor, has);
        return true;
    }

    int believed(int thing, int mark) {
        int has = 0;
        int hasNot = 0;
        for (Map.Entry<Integer, Boolean> word : words.getOrDefault(thing + " " + mark, Map.of()).entrySet()) {
            int weight = visitors.get(word.getKey())[1];
            has += word.getValue() ? weight : 0;
            hasNot += word.getValue() ? 0 : weight;
        }
        return has > 2 * hasNot ? 1 : hasNot > 2 * has ? 0 : -1;
    }

    int look(int i, int what) {
        if (!in(i, acts.size()) || !in(what, 7)) {
            return -1;
        }
        Act act = acts.get(i);
        return new int[] {act.kind, act.a, act.b, act.minute, act.sure ? 1 : 0, act.told, act.struck}[what];
    }

    int count(int what) {
        if (!in(what, 14)) {
            return -1;
        }
        return new int[] {now, feasts.size(), things.size(), acts.size(), mistakes.size(), kitchens.size(),
            lots.size(), passes.size(), visitors.size(), visits.size(), (int) seed, v, tape.size(),
            what == 13 ? quarrels().size() : 0}[what];
    }
}
