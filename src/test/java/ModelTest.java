import java.util.Random;

/** Long runs of random calls, answered by the class and by the plain model: each answer must be the same. */
public final class ModelTest {
    private static final int RUNS = 1200;
    private static final int CALLS = 512;
    private static final String[] PIECES = {"1", "xa", "ya", "xb", "yb", "xc", "yc", "xa<", "ya<", "xb<", "yb<"};

    // Of a hundred calls, those that tell acts and laws, that ask of them, of kitchens and of visits.
    private static final int[][] PARTS = {{60, 30, 5, 5}, {25, 65, 5, 5}, {10, 10, 70, 10}, {10, 10, 10, 70}};
    // Laws by which marks go from thing to thing, and are not easily gone.
    private static final String[] SPREADING = {
        "t:xa>y+a", "t:xa|xb>y+b", "k:xa&!yb>y+c,x-c", "t:xa>y+a,y+b,y+c;c:!xa>x-b;c:1>x-a",
        "t:xa<40>y+a;k:xa>y+b;c:xa<12>x-a", "t:xa>y+a;c:!xa&!xb>x-c;c:!xa>x-b;c:1>x-a;k:xa>y+a,y+b,y+c",
        "t:xa>y+b;t:xb>y+c;t:xc>y+a;l:xa>x-a", "t:xa>y+a;l:xa<9>x-a;c:xa<5|xb>x-b,x-a;k:1>x+c",
    };

    private final Check check;
    private final Random random;
    private final SealBook book = new SealBook();
    private final Model model = new Model();
    private final int focus;
    private final int step;
    private boolean spreads;

    private ModelTest(Check check, int seed) {
        this.check = check;
        random = new Random(seed);
        // Each run has its own kind of calls and its own pace of time.
        focus = seed / 2 % 4;
        step = new int[] {2, 6, 20, 300, 1500, 20000}[random.nextInt(6)];
    }

    public static void main(String[] args) {
        Check check = new Check("ModelTest");
        for (int seed = 0; seed < RUNS; seed++) {
            ModelTest run = new ModelTest(check, seed);
            if (seed % 2 == 0) {
                run.spread();
            }
            for (int k = 0; k < CALLS; k++) {
                run.call();
            }
        }
        for (int seed = 0; seed < 40000; seed++) {
            new ModelTest(check, seed).fault();
        }
        check.end();
    }

    /** Things, spreading laws, mistakes and acts behind them, so that there is something to follow. */
    private void spread() {
        spreads = true;
        for (int k = 4 + random.nextInt(4); k > 0; k--) {
            int marks = random.nextInt(8) & random.nextInt(8) & random.nextInt(8);
            due("thing", book.thing(marks), model.thing(marks));
        }
        for (int k = 0; k < 4; k++) {
            law(SPREADING[random.nextInt(SPREADING.length)]);
        }
        for (int k = 1 + random.nextInt(3); k > 0; k--) {
            now(random.nextInt(step));
            int thing = random.nextInt(model.things.size());
            int mark = random.nextInt(2);
            due("mistake", book.mistake(thing, mark, model.now), model.mistake(thing, mark, model.now));
        }
        for (int k = 3 + random.nextInt(20); k > 0; k--) {
            now(random.nextInt(step));
            addAct(random.nextInt(3) > 0);
        }
    }

    private int upTo(int bound) {
        // Sometimes one of those that just can't be, or one far away.
        switch (random.nextInt(60)) {
            case 0:
                return -1;
            case 1:
                return bound;
            case 2:
                return random.nextInt();
            default:
                return bound < 1 ? 0 : random.nextInt(bound);
        }
    }

    private int minute() {
        int now = model.now;
        switch (random.nextInt(30)) {
            case 0:
                return -1;
            case 1:
                return 1440000;
            case 2:
                return 1439999;
            case 3:
                return now + 1 + random.nextInt(5);
            case 4:
                return random.nextInt();
            default:
                int back = random.nextInt(random.nextBoolean() ? 8 : step * 3 + 1);
                return Math.max(0, now - back);
        }
    }

    private void call() {
        int[] parts = PARTS[focus];
        int dice = random.nextInt(100);
        if (dice < parts[0]) {
            actsCall();
        } else if (dice < parts[0] + parts[1]) {
            questionCall();
        } else if (dice < parts[0] + parts[1] + parts[2]) {
            kitchenCall();
        } else {
            visitCall();
        }
    }

    private void due(String call, int got, int want) {
        check.due(call, got, want);
    }

    private void due(String call, boolean got, boolean want) {
        check.due(call, got ? 1 : 0, want ? 1 : 0);
    }

    private int thingNumber() {
        return upTo(model.things.size());
    }

    private int markNumber() {
        return random.nextInt(4) > 0 ? random.nextInt(3) : upTo(8);
    }

    private void actsCall() {
        boolean flag = random.nextBoolean();
        if (model.things.size() < 3) {
            addThing();
            return;
        }
        switch (random.nextInt(spreads ? 48 : 24)) {
            case 0:
                int minute = model.now + random.nextInt(step * 2) - step / 10;
                due("now", book.now(minute), model.now(minute));
                break;
            case 1:
                int month = upTo(12);
                int first = upTo(29);
                int days = upTo(11);
                due("feast", book.feast(month, first, days), model.feast(month, first, days));
                break;
            case 2:
            case 3:
            case 4:
                if (!spreads) {
                    law(lawText());
                } else if (random.nextInt(12) == 0) {
                    law(random.nextBoolean() ? lawText() : SPREADING[random.nextInt(SPREADING.length)]);
                } else {
                    addAct(true);
                }
                break;
            case 5:
                if (random.nextInt(3) == 0) {
                    addThing();
                }
                break;
            case 6:
            case 47:
                int act = upTo(model.acts.size());
                due("strike", book.strike(act), model.strike(act));
                break;
            case 7:
                int thing = thingNumber();
                int mark = markNumber();
                int at = minute();
                due("mistake", book.mistake(thing, mark, at), model.mistake(thing, mark, at));
                break;
            case 8:
                tapeCall();
                break;
            case 9:
                now(random.nextInt(4));
                break;
            default:
                addAct(flag);
                break;
        }
    }

    private void now(int further) {
        due("now", book.now(model.now + further), model.now(model.now + further));
    }

    private void addThing() {
        int marks = random.nextInt(3) > 0 ? random.nextInt(4) : upTo(256);
        due("thing", book.thing(marks), model.thing(marks));
    }

    private void addAct(boolean sure) {
        int kind = upTo(4);
        int a = thingNumber();
        boolean hasOther = random.nextInt(20) == 0 ? random.nextBoolean() : kind < 2;
        int b = hasOther ? thingNumber() : -1;
        int minute = minute();
        due("act " + kind + " " + a + " " + b + " " + minute + " " + sure,
                book.act(kind, a, b, minute, sure), model.act(kind, a, b, minute, sure));
    }

    private void tapeCall() {
        if (random.nextInt(3) == 0) {
            int school = upTo(2);
            boolean feast = random.nextBoolean();
            int n = random.nextInt(3) == 0 ? 0 : upTo(model.tape.size() + 1);
            due("law", book.law(school, feast, n), model.law(school, feast, n));
        } else {
            int[] w = random.ints(5).toArray();
            due("feed", book.feed(w[0], w[1], w[2], w[3], w[4]), model.feed(w[0], w[1], w[2], w[3], w[4]));
        }
    }

    private void law(String text) {
        int school = random.nextInt(2);
        boolean feast = random.nextInt(3) == 0;
        if (model.tape.size() > 0) {
            due("law", book.law(school, feast, 0), model.law(school, feast, 0));
        }
        for (int at = 0; at < text.length() && at < 240; at += 20) {
            int[] w = new int[5];
            for (int k = 0; k < 5; k++) {
                w[k] = Texts.word(text, at + 4 * k);
            }
            due("feed", book.feed(w[0], w[1], w[2], w[3], w[4]), model.feed(w[0], w[1], w[2], w[3], w[4]));
        }
        int n = Math.min(text.length(), 240);
        due("law " + text, book.law(school, feast, n), model.law(school, feast, n));
    }

    private String lawText() {
        StringBuilder text = new StringBuilder();
        int rules = 1 + random.nextInt(6);
        for (int k = 0; k < rules; k++) {
            text.append(k > 0 ? ";" : "").append(rule());
        }
        while (text.length() > 240) {
            text.setLength(text.lastIndexOf(";"));
        }
        return text.toString();
    }

    private String rule() {
        StringBuilder text = new StringBuilder();
        text.append("ttkcl".charAt(random.nextInt(5))).append(':').append(condition(2)).append('>');
        int effects = 1 + random.nextInt(3);
        for (int k = 0; k < effects; k++) {
            text.append(k > 0 ? "," : "").append("xyy".charAt(random.nextInt(3)));
            text.append("++-".charAt(random.nextInt(3))).append((char) ('a' + random.nextInt(3)));
        }
        return text.toString();
    }

    private String condition(int depth) {
        StringBuilder text = new StringBuilder(piece(depth));
        for (int k = 0; k < 3 && random.nextInt(3) == 0; k++) {
            text.append("&|".charAt(random.nextInt(2))).append(piece(depth));
        }
        return text.toString();
    }

    private String piece(int depth) {
        int dice = random.nextInt(10);
        if (dice == 0 && depth > 0) {
            return "(" + condition(depth - 1) + ")";
        }
        if (dice < 3 && depth > 0) {
            return "!" + piece(depth - 1);
        }
        String piece = PIECES[random.nextInt(PIECES.length)];
        return piece.endsWith("<") ? piece + random.nextInt(random.nextBoolean() ? 10 : step * 2) : piece;
    }

    private void questionCall() {
        int school = upTo(2);
        int thing = thingNumber();
        int mark = markNumber();
        int i = upTo(model.mistakes.size());
        int at = minute();
        int t = random.nextBoolean() ? model.now : minute();
        switch (random.nextInt(14)) {
            case 0:
            case 1:
                due("mark", book.mark(school, thing, mark, at, t), model.mark(school, thing, mark, at, t));
                break;
            case 2:
                int late = random.nextInt(10) == 0 ? 1440000 : 1439999;
                due("mark", book.mark(school, thing, mark, late, t), model.mark(school, thing, mark, late, t));
                break;
            case 3:
            case 4:
                int what = upTo(2);
                due("since", book.since(school, thing, mark, at, t, what),
                        model.since(school, thing, mark, at, t, what));
                break;
            case 5:
                int k = random.nextInt(12) - 1;
                int which = upTo(4);
                due("quarrel", book.quarrel(k, which), model.quarrel(k, which));
                break;
            case 6:
            case 7:
                due("leads", book.leads(i, school, thing, at), model.leads(i, school, thing, at));
                break;
            case 8:
                due("reached", book.reached(i, school, thing), model.reached(i, school, thing));
                break;
            case 9:
            case 10:
                int part = random.nextInt(6) - 1;
                due("way", book.way(i, school, thing, part), model.way(i, school, thing, part));
                break;
            case 11:
                due("mend", book.mend(i, school, thing), model.mend(i, school, thing));
                break;
            case 12:
                int act = upTo(model.acts.size());
                int of = upTo(7);
                due("look", book.look(act, of), model.look(act, of));
                break;
            default:
                countCall();
                break;
        }
    }

    private void countCall() {
        int what = upTo(14);
        due("count " + what, book.count(what), model.count(what));
        int school = upTo(2);
        due("rules", book.rules(school, what % 2 == 0), model.rules(school, what % 2 == 0));
        int day = upTo(1000);
        due("isFeast", book.isFeast(day), model.isFeast(day));
        due("moon", book.moon(day, what % 5), model.moon(day, what % 5));
    }

    private void kitchenCall() {
        int a = upTo(model.kitchens.size());
        int lot = upTo(model.lots.size());
        boolean flag = random.nextInt(3) > 0;
        int school = upTo(2);
        int overseer = upTo(random.nextBoolean() ? 3 : 8);
        int dice = model.kitchens.size() < 2 ? 0 : model.lots.isEmpty() ? 3 : random.nextInt(20);
        switch (dice) {
            case 0:
                int x = upTo(random.nextBoolean() ? 4 : 100);
                int y = upTo(random.nextBoolean() ? 4 : 100);
                due("kitchen", book.kitchen(school, overseer, x, y), model.kitchen(school, overseer, x, y));
                break;
            case 1:
                due("oversee", book.oversee(a, overseer), model.oversee(a, overseer));
                break;
            case 2:
            case 4:
                due("trust", book.trust(school, overseer, flag), model.trust(school, overseer, flag));
                break;
            case 3:
                int units = random.nextInt(9) == 0 ? upTo(100001) : upTo(200);
                due("lot", book.lot(a, units), model.lot(a, units));
                break;
            case 5:
            case 6:
            case 7:
            case 8:
                passCall(lot, a, flag);
                break;
            case 9:
                due("recall", book.recall(lot), model.recall(lot));
                break;
            case 10:
            case 11:
                due("units", book.units(lot, a), model.units(lot, a));
                break;
            default:
                int what = upTo(2);
                due("good", book.good(school, lot, a, what), model.good(school, lot, a, what));
                break;
        }
    }

    private void passCall(int lot, int a, boolean isSealed) {
        int b = upTo(model.kitchens.size());
        int n = upTo(Math.max(1, model.units(lot, a)) + 1);
        due("pass", book.pass(lot, a, b, n, isSealed), model.pass(lot, a, b, n, isSealed));
    }

    private void visitCall() {
        int visitor = upTo(model.visitors.size());
        int dice = model.visitors.size() < 2 ? 0 : random.nextInt(25);
        switch (dice) {
            case 0:
                int school = upTo(2);
                int weight = upTo(10);
                due("visitor", book.visitor(school, weight), model.visitor(school, weight));
                break;
            case 1:
                int seed = random.nextInt();
                int v = upTo(random.nextBoolean() ? 3 : 100);
                due("seed", book.seed(seed, v), model.seed(seed, v));
                break;
            case 2:
                int later = random.nextInt(1440 * 2);
                now(random.nextInt(9) == 0 ? later * 5 : later);
                break;
            case 3:
            case 4:
            case 5:
                due("row", book.row(), model.row());
                break;
            case 6:
                int i = upTo(model.visits.size());
                int what = upTo(3);
                due("visit", book.visit(i, what), model.visit(i, what));
                break;
            case 7:
                due("tour", book.tour(visitor), model.tour(visitor));
                break;
            case 8:
                int k = upTo(4);
                due("stop", book.stop(visitor, k), model.stop(visitor, k));
                break;
            case 9:
            case 10:
            case 11:
            case 12:
                wordCall(visitor);
                break;
            case 13:
                countCall();
                break;
            case 14:
                kitchenCall();
                break;
            default:
                due("draw", book.draw(), model.draw());
                break;
        }
    }

    private void wordCall(int visitor) {
        int thing = upTo(Math.min(2, model.things.size()));
        int mark = markNumber();
        boolean has = random.nextBoolean();
        due("word", book.word(visitor, thing, mark, has), model.word(visitor, thing, mark, has));
        due("believed", book.believed(thing, mark), model.believed(thing, mark));
    }

    /** A text with some signs of it changed, cut out or put in: a fault, most often. */
    private void fault() {
        StringBuilder text = new StringBuilder();
        int kind = random.nextInt(4);
        if (kind == 0) {
            text.append(lawText());
        } else if (kind == 1) {
            int rules = 20 + random.nextInt(10);
            for (int k = 0; k < rules; k++) {
                text.append(k > 0 ? ";" : "").append("tkcl".charAt(random.nextInt(4))).append(":1>x+a");
            }
        } else if (kind == 2) {
            int signs = 70 + random.nextInt(20);
            text.append("t:1");
            for (int k = 1; k < signs; k++) {
                text.append("&|".charAt(random.nextInt(2))).append("1");
            }
            text.append(random.nextBoolean() ? ">x+a;c:1&xa>x-a" : ">x+a,y+b,x+c,x-d,x+e");
        } else {
            text.append("t:").append(deep(random.nextInt(11))).append("&").append(deep(random.nextInt(11)));
            text.append(">x+a");
        }
        String signs = "tkcl:xyabh1|&!()<0123456789>+-,; ?";
        for (int k = random.nextInt(4); k > 0 && text.length() > 1; k--) {
            int at = random.nextInt(text.length());
            char sign = signs.charAt(random.nextInt(signs.length()));
            switch (random.nextInt(4)) {
                case 0:
                    text.setCharAt(at, sign);
                    break;
                case 1:
                    text.deleteCharAt(at);
                    break;
                case 2:
                    text.insert(at, sign);
                    break;
                default:
                    text.setLength(random.nextInt(6) == 0 ? at : text.length());
                    break;
            }
        }
        law(text.toString());
    }

    private String deep(int depth) {
        if (depth == 0) {
            return PIECES[random.nextInt(7)];
        }
        return random.nextBoolean() ? "!" + deep(depth - 1) : "(" + deep(depth - 1) + ")";
    }
}
