/**
 * Kitchens under a seal: marks on things by the laws of two schools, mistakes and where they lead,
 * lots under seals and trust, visits that are drawn, and whose word is believed.
 */
public final class SealBook {
    public static final int NONE = -1;

    private static final int MINUTES = 1440000;
    private static final int MINUTES_A_DAY = 1440;
    private static final int DAYS = 1000;
    private static final int SCHOOLS = 2;
    private static final int MARKS = 8;
    private static final int MOST_THINGS = 20;
    private static final int MOST_ACTS = 200;
    private static final int MOST_MISTAKES = 10;
    private static final int MOST_KITCHENS = 8;
    private static final int OVERSEERS = 8;
    private static final int MOST_LOTS = 10;
    private static final int MOST_PASSES = 100;
    private static final int MOST_VISITORS = 6;
    private static final int MOST_VISITS = 400;
    private static final int CLEANSED = 2;
    private static final int MOST_CLEANSINGS = 5;

    private final Feasts feasts = new Feasts();
    private final LawReader reader = new LawReader();
    private final Ledger ledger = new Ledger();
    private final Judge judge = new Judge(ledger, feasts);
    private final Trace trace = new Trace(ledger, judge);
    private final Marks held = new Marks();
    private final Marks heldByOther = new Marks();
    private final Kitchens kitchens = new Kitchens();
    private final Lots lots = new Lots(kitchens);
    private final Visitors visitors = new Visitors();
    private final Visits visits = new Visits(kitchens, visitors);
    private int minuteNow;

    public SealBook() {
        minuteNow = 0;
    }

    public boolean now(int minute) {
        if (!isMinute(minute) || minute < minuteNow) {
            return false;
        }
        minuteNow = minute;
        return true;
    }

    public boolean feast(int month, int first, int days) {
        return feasts.tell(month, first, days);
    }

    public int isFeast(int day) {
        if (!isIn(day, DAYS)) {
            return NONE;
        }
        return feasts.has(day) ? 1 : 0;
    }

    public int moon(int day, int what) {
        if (!isIn(day, DAYS)) {
            return NONE;
        }
        int month = Feasts.monthOf(day);
        switch (what) {
            case 0:
                return month;
            case 1:
                return month % Feasts.MONTHS_A_YEAR;
            case 2:
                return day - Feasts.beginOf(month);
            default:
                return NONE;
        }
    }

    public int feed(int a, int b, int c, int d, int e) {
        return reader.append(a, b, c, d, e);
    }

    public int law(int school, boolean feast, int n) {
        if (!isIn(school, SCHOOLS) || n < 0 || n > reader.bytes) {
            return NONE;
        }
        int fault = reader.readTape(n);
        if (fault == 0) {
            judge.lawOf(school, feast).become(reader.read);
        }
        return fault;
    }

    public int rules(int school, boolean feast) {
        if (!isIn(school, SCHOOLS)) {
            return NONE;
        }
        return judge.lawOf(school, feast).ruleCount;
    }

    public int thing(int marks) {
        return ledger.addThing(marks);
    }

    public int act(int kind, int a, int b, int minute, boolean sure) {
        if (!isTold(minute)) {
            return NONE;
        }
        return ledger.addAct(kind, a, b, minute, sure, minuteNow);
    }

    public boolean strike(int i) {
        return ledger.strikeAct(i, minuteNow);
    }

    public int mistake(int thing, int mark, int minute) {
        if (!isTold(minute)) {
            return NONE;
        }
        return ledger.addMistake(thing, mark, minute, minuteNow);
    }

    public int mark(int school, int thing, int mark, int v, int t) {
        if (!canAsk(school, thing, mark, v, t)) {
            return NONE;
        }
        judge.tellWhatIs(held, school, v, t);
        return held.value[thing * MARKS + mark];
    }

    public int since(int school, int thing, int mark, int v, int t, int what) {
        if (!canAsk(school, thing, mark, v, t) || !isIn(what, 2)) {
            return NONE;
        }
        judge.tellWhatIs(held, school, v, t);
        int place = thing * MARKS + mark;
        if (held.value[place] == 0) {
            return NONE;
        }
        return what == 0 ? held.earliest[place] : held.latest[place];
    }

    public int quarrel(int i, int what) {
        if (i < 0 || !isIn(what, 4)) {
            return NONE;
        }
        askBothSchools();
        int place = quarrelPlace(i);
        if (place == NONE) {
            return NONE;
        }
        switch (what) {
            case 0:
                return place / MARKS;
            case 1:
                return place % MARKS;
            case 2:
                return held.value[place];
            default:
                return heldByOther.value[place];
        }
    }

    public int leads(int i, int school, int thing, int v) {
        if (!canTrace(i, school, thing) || !isMinute(v)) {
            return NONE;
        }
        trace.follow(i, school, v, minuteNow);
        return trace.otherwise(thing);
    }

    public int reached(int i, int school, int thing) {
        if (!canTrace(i, school, thing)) {
            return NONE;
        }
        trace.follow(i, school, minuteNow, minuteNow);
        return trace.reachedBy[thing];
    }

    public int way(int i, int school, int thing, int k) {
        if (!canTrace(i, school, thing) || !isIn(k, MOST_THINGS)) {
            return NONE;
        }
        trace.follow(i, school, minuteNow, minuteNow);
        int steps = trace.walkBack(i, thing);
        return k < steps ? trace.steps[k] : NONE;
    }

    public int mend(int i, int school, int thing) {
        if (!canTrace(i, school, thing)) {
            return NONE;
        }
        trace.follow(i, school, minuteNow, minuteNow);
        return trace.cleansings(school, thing, minuteNow);
    }

    public int kitchen(int school, int overseer, int x, int y) {
        return kitchens.add(school, overseer, x, y);
    }

    public boolean oversee(int kitchen, int overseer) {
        if (!isIn(kitchen, kitchens.size) || !isIn(overseer, OVERSEERS)) {
            return false;
        }
        kitchens.overseer[kitchen] = overseer;
        return true;
    }

    public boolean trust(int school, int overseer, boolean is) {
        if (!isIn(school, SCHOOLS) || !isIn(overseer, OVERSEERS)) {
            return false;
        }
        int place = school * OVERSEERS + overseer;
        if (kitchens.trusted[place] == is) {
            return false;
        }
        kitchens.trusted[place] = is;
        return true;
    }

    public int lot(int kitchen, int units) {
        return lots.add(kitchen, units);
    }

    public boolean pass(int lot, int a, int b, int n, boolean sealed) {
        return lots.move(lot, a, b, n, sealed);
    }

    public int units(int lot, int kitchen) {
        if (!isIn(lot, lots.size) || !isIn(kitchen, kitchens.size)) {
            return NONE;
        }
        return lots.there[lot * MOST_KITCHENS + kitchen];
    }

    public int good(int school, int lot, int kitchen, int what) {
        if (!isIn(school, SCHOOLS) || !isIn(lot, lots.size) || !isIn(kitchen, kitchens.size)) {
            return NONE;
        }
        if (!isIn(what, 2)) {
            return NONE;
        }
        lots.seeGood(school, lot);
        return what == 0 ? lots.least[kitchen] : lots.most[kitchen];
    }

    public int recall(int lot) {
        if (!isIn(lot, lots.size)) {
            return NONE;
        }
        return lots.wasIn[lot];
    }

    public int visitor(int school, int weight) {
        return visitors.add(school, weight);
    }

    public boolean seed(int seed, int v) {
        return visits.reseed(seed, v);
    }

    public int draw() {
        return visits.drawOne(today());
    }

    public int row() {
        return visits.fillRow(today());
    }

    public int visit(int i, int what) {
        if (!isIn(i, visits.size)) {
            return NONE;
        }
        switch (what) {
            case 0:
                return visits.kitchenOf(i);
            case 1:
                return visits.visitorOf(i);
            case 2:
                return visits.day[i];
            default:
                return NONE;
        }
    }

    public int tour(int visitor) {
        if (!isIn(visitor, visitors.size)) {
            return NONE;
        }
        return kitchens.planTour(visits.kitchensOn(today(), visitor));
    }

    public int stop(int visitor, int k) {
        if (!isIn(visitor, visitors.size) || !isIn(k, MOST_KITCHENS)) {
            return NONE;
        }
        kitchens.planTour(visits.kitchensOn(today(), visitor));
        return k < kitchens.stopCount ? kitchens.stops[k] : NONE;
    }

    public boolean word(int visitor, int thing, int mark, boolean has) {
        if (!isIn(visitor, visitors.size) || !isIn(thing, ledger.things) || !isIn(mark, MARKS)) {
            return false;
        }
        visitors.hear(visitor, thing * MARKS + mark, has);
        return true;
    }

    public int believed(int thing, int mark) {
        if (!isIn(thing, ledger.things) || !isIn(mark, MARKS)) {
            return NONE;
        }
        return visitors.belief(thing * MARKS + mark);
    }

    public int look(int i, int what) {
        if (!isIn(i, ledger.acts)) {
            return NONE;
        }
        switch (what) {
            case 0:
                return ledger.kind[i];
            case 1:
                return ledger.first[i];
            case 2:
                return ledger.second[i];
            case 3:
                return ledger.minute[i];
            case 4:
                return ledger.sure[i] ? 1 : 0;
            case 5:
                return ledger.told[i];
            case 6:
                return ledger.struck[i];
            default:
                return NONE;
        }
    }

    public int count(int what) {
        switch (what) {
            case 0:
                return minuteNow;
            case 1:
                return feasts.size;
            case 2:
                return ledger.things;
            case 3:
                return ledger.acts;
            case 4:
                return ledger.mistakes;
            case 5:
                return kitchens.size;
            case 6:
                return lots.size;
            case 7:
                return lots.passes;
            case 8:
                return visitors.size;
            case 9:
                return visits.size;
            case 10:
                return visits.chance;
            case 11:
                return visits.patience;
            case 12:
                return reader.bytes;
            case 13:
                askBothSchools();
                return quarrelsHeld();
            default:
                return NONE;
        }
    }

    private static boolean isIn(int i, int size) {
        return i >= 0 && i < size;
    }

    private static boolean isMinute(int minute) {
        return isIn(minute, MINUTES);
    }

    private boolean isTold(int minute) {
        return isMinute(minute) && minute <= minuteNow;
    }

    private int today() {
        return minuteNow / MINUTES_A_DAY;
    }

    private boolean canAsk(int school, int thing, int mark, int v, int t) {
        return isIn(school, SCHOOLS) && isIn(thing, ledger.things) && isIn(mark, MARKS)
                && isMinute(v) && isMinute(t);
    }

    private boolean canTrace(int mistake, int school, int thing) {
        return isIn(mistake, ledger.mistakes) && isIn(school, SCHOOLS) && isIn(thing, ledger.things);
    }

    private void askBothSchools() {
        judge.tellWhatIs(held, 0, minuteNow, minuteNow);
        judge.tellWhatIs(heldByOther, 1, minuteNow, minuteNow);
    }

    private int quarrelPlace(int i) {
        int left = i;
        for (int place = 0; place < ledger.things * MARKS; place++) {
            if (held.value[place] != heldByOther.value[place]) {
                if (left == 0) {
                    return place;
                }
                left--;
            }
        }
        return NONE;
    }

    private int quarrelsHeld() {
        int found = 0;
        for (int place = 0; place < ledger.things * MARKS; place++) {
            if (held.value[place] != heldByOther.value[place]) {
                found++;
            }
        }
        return found;
    }

    /** The moon's months, and the feasts that were told. */
    private static final class Feasts {
        static final int MONTHS_A_YEAR = 12;
        private static final int MOST = 6;
        private static final int LAST_FIRST_DAY = 28;
        private static final int MOST_DAYS = 10;
        // Month 34 begins behind the last day.
        private static final int MONTHS = 34;

        private final int[] month = new int[MOST];
        private final int[] first = new int[MOST];
        private final int[] length = new int[MOST];
        private int size;

        static int beginOf(int month) {
            return month * 2953 / 100;
        }

        static int monthOf(int day) {
            int found = 0;
            for (int m = 1; m < MONTHS; m++) {
                if (beginOf(m) <= day) {
                    found = m;
                }
            }
            return found;
        }

        boolean tell(int ofMonth, int firstDay, int days) {
            if (size >= MOST || !isIn(ofMonth, MONTHS_A_YEAR)) {
                return false;
            }
            if (firstDay < 0 || firstDay > LAST_FIRST_DAY || days < 1 || days > MOST_DAYS) {
                return false;
            }
            month[size] = ofMonth;
            first[size] = firstDay;
            length[size] = days;
            size++;
            return true;
        }

        boolean has(int day) {
            int at = monthOf(day);
            // A feast is too short to reach further than into the month behind its own.
            return isKept(at, day) || at > 0 && isKept(at - 1, day);
        }

        private boolean isKept(int at, int day) {
            int inMonth = day - beginOf(at);
            for (int k = 0; k < size; k++) {
                boolean isItsMonth = month[k] == at % MONTHS_A_YEAR;
                if (isItsMonth && inMonth >= first[k] && inMonth < first[k] + length[k]) {
                    return true;
                }
            }
            return false;
        }
    }

    /** The rules of one law; each condition is kept with its operands ahead of what joins them. */
    private static final class Law {
        static final int MOST_BYTES = 240;
        static final int MOST_RULES = 24;
        static final int MOST_EFFECTS = 4;
        static final int SO = 0;
        static final int NOT = 1;
        static final int BOTH = 2;
        static final int EITHER = 3;
        static final int HAS = 4;
        static final int HAS_LATELY = 5;
        static final int KIND_MASK = 7;
        static final int MARK_MASK = 7;
        static final int ON_OTHER = 8;
        static final int ADDS = 16;

        private final int[] kind = new int[MOST_RULES];
        private final int[] stepsTo = new int[MOST_RULES];
        private final int[] effectsTo = new int[MOST_RULES];
        // A step takes at least one byte of the text.
        private final int[] step = new int[MOST_BYTES];
        private final int[] effect = new int[MOST_RULES * MOST_EFFECTS];
        private int ruleCount;
        private int steps;
        private int effects;

        void empty() {
            ruleCount = 0;
            steps = 0;
            effects = 0;
        }

        void become(Law other) {
            System.arraycopy(other.kind, 0, kind, 0, kind.length);
            System.arraycopy(other.stepsTo, 0, stepsTo, 0, stepsTo.length);
            System.arraycopy(other.effectsTo, 0, effectsTo, 0, effectsTo.length);
            System.arraycopy(other.step, 0, step, 0, step.length);
            System.arraycopy(other.effect, 0, effect, 0, effect.length);
            ruleCount = other.ruleCount;
            steps = other.steps;
            effects = other.effects;
        }

        void addStep(int kindOfStep, int place, int limit) {
            if (steps < step.length) {
                step[steps] = kindOfStep | place << 3 | limit << 7;
                steps++;
            }
        }

        void addEffect(int coded) {
            if (effects < effect.length) {
                effect[effects] = coded;
                effects++;
            }
        }

        void addRule(int ofKind) {
            if (ruleCount < MOST_RULES) {
                kind[ruleCount] = ofKind;
                stepsTo[ruleCount] = steps;
                effectsTo[ruleCount] = effects;
                ruleCount++;
            }
        }

        int stepsFrom(int rule) {
            return rule > 0 ? stepsTo[rule - 1] : 0;
        }

        int effectsFrom(int rule) {
            return rule > 0 ? effectsTo[rule - 1] : 0;
        }
    }

    /** The tape, and the reading of a law from it. */
    private static final class LawReader {
        private static final int OUT_OF_PLACE = 1;
        private static final int DIGITS = 2;
        private static final int EFFECTS = 3;
        private static final int RULES = 4;
        private static final int DEPTH = 5;
        private static final int OPERANDS = 6;
        private static final int MOST_DIGITS = 6;
        private static final int MOST_OPEN = 8;
        private static final int MOST_OPERANDS = 80;

        private final int[] tape = new int[Law.MOST_BYTES];
        // A law is read into one of its own, so that a fault leaves the one in force as it is.
        private final Law read = new Law();
        private int bytes;
        private int end;
        private int at;
        private int fault;
        private int operands;

        int append(int a, int b, int c, int d, int e) {
            if (bytes + 20 > tape.length) {
                return NONE;
            }
            put(a);
            put(b);
            put(c);
            put(d);
            put(e);
            return bytes;
        }

        private void put(int four) {
            for (int shift = 24; shift >= 0; shift -= 8) {
                if (bytes < tape.length) {
                    tape[bytes] = four >>> shift & 255;
                    bytes++;
                }
            }
        }

        /** Reads the first n bytes; answers 0, or the fault and its place. The tape is empty then. */
        int readTape(int n) {
            read.empty();
            end = n;
            at = 0;
            fault = 0;
            operands = 0;
            bytes = 0;
            for (int k = 0; k <= Law.MOST_RULES && n > 0; k++) {
                int kind = readKind(k);
                expect(':');
                readCondition(0);
                expect('>');
                readEffects();
                read.addRule(kind);
                if (fault != 0 || at >= end) {
                    break;
                }
                expect(';');
            }
            return fault == 0 ? 0 : 1000 * fault + at;
        }

        private int readKind(int number) {
            int kind = kindOf(sign());
            if (kind == NONE) {
                fail(OUT_OF_PLACE);
            } else if (number >= Law.MOST_RULES) {
                fail(RULES);
            } else {
                at++;
            }
            return kind;
        }

        private void readCondition(int open) {
            readPart(open);
            for (int k = 0; k < Law.MOST_BYTES && goesOn('|'); k++) {
                at++;
                readPart(open);
                read.addStep(Law.EITHER, 0, 0);
            }
        }

        private void readPart(int open) {
            readPiece(open);
            for (int k = 0; k < Law.MOST_BYTES && goesOn('&'); k++) {
                at++;
                readPiece(open);
                read.addStep(Law.BOTH, 0, 0);
            }
        }

        private void readPiece(int open) {
            int inside = open;
            for (int k = 0; k <= MOST_OPEN && goesOn('!') && mayOpen(inside); k++) {
                at++;
                inside++;
            }
            switch (sign()) {
                case '(':
                    if (mayOpen(inside)) {
                        at++;
                        readCondition(inside + 1);
                        expect(')');
                    }
                    break;
                case '1':
                case 'x':
                case 'y':
                    readOperand(sign());
                    break;
                default:
                    fail(OUT_OF_PLACE);
                    break;
            }
            for (int k = open; k < inside; k++) {
                read.addStep(Law.NOT, 0, 0);
            }
        }

        private boolean mayOpen(int open) {
            if (open >= MOST_OPEN) {
                fail(DEPTH);
                return false;
            }
            return true;
        }

        private void readOperand(int sign) {
            if (operands >= MOST_OPERANDS) {
                fail(OPERANDS);
                return;
            }
            operands++;
            at++;
            if (sign == '1') {
                read.addStep(Law.SO, 0, 0);
                return;
            }
            int place = readMark() + (sign == 'y' ? Law.ON_OTHER : 0);
            if (goesOn('<')) {
                at++;
                read.addStep(Law.HAS_LATELY, place, readNumber());
            } else {
                read.addStep(Law.HAS, place, 0);
            }
        }

        private int readMark() {
            int mark = sign() - 'a';
            if (!isIn(mark, MARKS)) {
                fail(OUT_OF_PLACE);
                return 0;
            }
            at++;
            return mark;
        }

        private int readNumber() {
            int number = 0;
            for (int k = 0; k <= MOST_DIGITS; k++) {
                int digit = sign() - '0';
                if (!isIn(digit, 10)) {
                    if (k == 0) {
                        fail(OUT_OF_PLACE);
                    }
                    return number;
                }
                if (k == MOST_DIGITS) {
                    fail(DIGITS);
                    return number;
                }
                number = number * 10 + digit;
                at++;
            }
            return number;
        }

        private void readEffects() {
            for (int k = 0; k <= Law.MOST_EFFECTS; k++) {
                readEffect(k);
                if (!goesOn(',')) {
                    return;
                }
                at++;
            }
        }

        private void readEffect(int number) {
            int on = sign();
            if (on != 'x' && on != 'y') {
                fail(OUT_OF_PLACE);
                return;
            }
            if (number >= Law.MOST_EFFECTS) {
                fail(EFFECTS);
                return;
            }
            at++;
            int how = sign();
            if (how != '+' && how != '-') {
                fail(OUT_OF_PLACE);
                return;
            }
            at++;
            int mark = readMark();
            read.addEffect(mark | (on == 'y' ? Law.ON_OTHER : 0) | (how == '+' ? Law.ADDS : 0));
        }

        private static int kindOf(int sign) {
            switch (sign) {
                case 't':
                    return 0;
                case 'k':
                    return 1;
                case 'c':
                    return CLEANSED;
                case 'l':
                    return 3;
                default:
                    return NONE;
            }
        }

        // Behind a fault there are no signs any more, so that all reading ends there.
        private int sign() {
            return fault == 0 && at >= 0 && at < end && at < tape.length ? tape[at] : NONE;
        }

        private boolean goesOn(int sign) {
            return sign() == sign;
        }

        private void expect(int sign) {
            if (goesOn(sign)) {
                at++;
            } else {
                fail(OUT_OF_PLACE);
            }
        }

        private void fail(int number) {
            // The first from the left is the one that counts.
            if (fault == 0) {
                fault = number;
            }
        }
    }

    /** What is on each thing: each mark's value, and the two minutes between which it came. */
    private static final class Marks {
        private final int[] value = new int[MOST_THINGS * MARKS];
        private final int[] earliest = new int[MOST_THINGS * MARKS];
        private final int[] latest = new int[MOST_THINGS * MARKS];

        void begin(Ledger ledger) {
            for (int place = 0; place < ledger.things * MARKS; place++) {
                int bits = ledger.bornWith[place / MARKS];
                put(place, (bits >> place % MARKS & 1) * 2, 0);
            }
        }

        void put(int place, int is, int minute) {
            value[place] = is;
            earliest[place] = minute;
            latest[place] = minute;
        }

        void join(int place, int is, int from, int to) {
            boolean isNew = value[place] == 0;
            if (value[place] != is) {
                value[place] = 1;
            }
            if (is != 0) {
                earliest[place] = isNew || from < earliest[place] ? from : earliest[place];
                latest[place] = isNew || to > latest[place] ? to : latest[place];
            }
        }

        void copyThing(Marks other, int thing) {
            for (int place = thing * MARKS; place < thing * MARKS + MARKS; place++) {
                value[place] = other.value[place];
                earliest[place] = other.earliest[place];
                latest[place] = other.latest[place];
            }
        }

        void joinThing(Marks other, int thing) {
            for (int place = thing * MARKS; place < thing * MARKS + MARKS; place++) {
                join(place, other.value[place], other.earliest[place], other.latest[place]);
            }
        }

        /** 2 if a mark is 0 here and 2 there (or the other way), else 1 if one is unlike, else 0. */
        int unlike(Marks other, int thing) {
            int most = 0;
            for (int place = thing * MARKS; place < thing * MARKS + MARKS; place++) {
                most = Math.max(most, Math.abs(value[place] - other.value[place]));
            }
            return most;
        }
    }

    /** The things, acts and mistakes as told, and the order in which they come one behind the other. */
    private static final class Ledger {
        private final int[] bornWith = new int[MOST_THINGS];
        private final int[] kind = new int[MOST_ACTS];
        private final int[] first = new int[MOST_ACTS];
        private final int[] second = new int[MOST_ACTS];
        private final int[] minute = new int[MOST_ACTS];
        private final boolean[] sure = new boolean[MOST_ACTS];
        private final int[] told = new int[MOST_ACTS];
        private final int[] struck = new int[MOST_ACTS];
        private final int[] mistakeThing = new int[MOST_MISTAKES];
        private final int[] mistakeMark = new int[MOST_MISTAKES];
        private final int[] mistakeMinute = new int[MOST_MISTAKES];
        private final int[] mistakeTold = new int[MOST_MISTAKES];
        // A mistake is an event by its number, an act by its number and MOST_MISTAKES:
        // so events of one minute stand as they must when they stand by their numbers.
        private final int[] order = new int[MOST_MISTAKES + MOST_ACTS];
        private int events;
        private int things;
        private int acts;
        private int mistakes;

        int addThing(int marks) {
            if (things >= MOST_THINGS || !isIn(marks, 1 << MARKS)) {
                return NONE;
            }
            bornWith[things] = marks;
            things++;
            return things - 1;
        }

        int addAct(int ofKind, int a, int b, int at, boolean isSure, int now) {
            if (acts >= MOST_ACTS || !isIn(a, things) || !canBeSecond(ofKind, a, b)) {
                return NONE;
            }
            kind[acts] = ofKind;
            first[acts] = a;
            second[acts] = b;
            minute[acts] = at;
            sure[acts] = isSure;
            told[acts] = now;
            struck[acts] = NONE;
            place(MOST_MISTAKES + acts);
            acts++;
            return acts - 1;
        }

        private boolean canBeSecond(int ofKind, int a, int b) {
            switch (ofKind) {
                case 0:
                case 1:
                    return isIn(b, things) && a != b;
                case CLEANSED:
                case 3:
                    return b == NONE;
                default:
                    return false;
            }
        }

        boolean strikeAct(int i, int now) {
            if (!isIn(i, acts) || struck[i] != NONE) {
                return false;
            }
            struck[i] = now;
            return true;
        }

        int addMistake(int thing, int mark, int at, int now) {
            if (mistakes >= MOST_MISTAKES || !isIn(thing, things) || !isIn(mark, MARKS)) {
                return NONE;
            }
            mistakeThing[mistakes] = thing;
            mistakeMark[mistakes] = mark;
            mistakeMinute[mistakes] = at;
            mistakeTold[mistakes] = now;
            place(mistakes);
            mistakes++;
            return mistakes - 1;
        }

        private void place(int event) {
            if (events >= order.length) {
                return;
            }
            int at = events;
            for (int k = events; k > 0 && comesAhead(event, order[k - 1]); k--) {
                order[k] = order[k - 1];
                at = k - 1;
            }
            order[at] = event;
            events++;
        }

        private boolean comesAhead(int event, int other) {
            int difference = minuteOf(event) - minuteOf(other);
            return difference < 0 || difference == 0 && event < other;
        }

        boolean isMistake(int event) {
            return event < MOST_MISTAKES;
        }

        int minuteOf(int event) {
            return isMistake(event) ? mistakeMinute[event] : minute[event - MOST_MISTAKES];
        }

        boolean isKnown(int event, int t) {
            if (isMistake(event)) {
                return mistakeTold[event] <= t;
            }
            int i = event - MOST_MISTAKES;
            return told[i] <= t && (struck[i] == NONE || t < struck[i]);
        }

        int otherThing(int act, int thing) {
            return first[act] == thing ? second[act] : first[act];
        }
    }

    /** What each act and mistake makes of the marks, by the laws of a school. */
    private static final class Judge {
        private final Law commonOfFirst = new Law();
        private final Law commonOfSecond = new Law();
        private final Law feastOfFirst = new Law();
        private final Law feastOfSecond = new Law();
        private final Ledger ledger;
        private final Feasts feasts;
        private final Marks ahead = new Marks();
        private final int[] stack = new int[LawReader.MOST_OPERANDS];

        Judge(Ledger ledger, Feasts feasts) {
            this.ledger = ledger;
            this.feasts = feasts;
        }

        Law lawOf(int school, boolean feast) {
            if (school == 0) {
                return feast ? feastOfFirst : commonOfFirst;
            }
            return feast ? feastOfSecond : commonOfSecond;
        }

        private Law lawAt(int school, int minute) {
            Law ofFeasts = lawOf(school, true);
            if (ofFeasts.ruleCount > 0 && feasts.has(minute / MINUTES_A_DAY)) {
                return ofFeasts;
            }
            return lawOf(school, false);
        }

        void tellWhatIs(Marks marks, int school, int v, int t) {
            marks.begin(ledger);
            for (int k = 0; k < ledger.events; k++) {
                int event = ledger.order[k];
                if (ledger.minuteOf(event) <= v && ledger.isKnown(event, t)) {
                    play(marks, school, event);
                }
            }
        }

        void play(Marks marks, int school, int event) {
            if (ledger.isMistake(event)) {
                int place = ledger.mistakeThing[event] * MARKS + ledger.mistakeMark[event];
                marks.put(place, 2, ledger.mistakeMinute[event]);
                return;
            }
            int i = event - MOST_MISTAKES;
            int minute = ledger.minute[i];
            perform(marks, lawAt(school, minute), ledger.kind[i], ledger.first[i], ledger.second[i],
                    minute, ledger.sure[i]);
        }

        void cleanse(Marks marks, int school, int thing, int minute) {
            perform(marks, lawAt(school, minute), CLEANSED, thing, NONE, minute, true);
        }

        private void perform(Marks marks, Law law, int kind, int a, int b, int minute, boolean sure) {
            boolean isPair = b != NONE;
            ahead.copyThing(marks, a);
            if (isPair) {
                ahead.copyThing(marks, b);
            }
            applyRules(marks, law, kind, a, b, minute);
            if (isPair) {
                applyRules(marks, law, kind, b, a, minute);
            }
            if (!sure) {
                marks.joinThing(ahead, a);
                if (isPair) {
                    marks.joinThing(ahead, b);
                }
            }
        }

        private void applyRules(Marks marks, Law law, int kind, int x, int y, int minute) {
            for (int rule = 0; rule < law.ruleCount; rule++) {
                if (law.kind[rule] != kind) {
                    continue;
                }
                int isSo = ask(law, rule, x, y, minute);
                if (isSo > 0) {
                    applyEffects(marks, law, rule, x, y, minute, isSo == 2);
                }
            }
        }

        private void applyEffects(Marks marks, Law law, int rule, int x, int y, int minute, boolean surely) {
            for (int k = law.effectsFrom(rule); k < law.effectsTo[rule]; k++) {
                int effect = law.effect[k];
                int thing = (effect & Law.ON_OTHER) == 0 ? x : y;
                if (thing == NONE) {
                    continue;
                }
                int place = thing * MARKS + (effect & Law.MARK_MASK);
                int is = (effect & Law.ADDS) == 0 ? 0 : 2;
                if (surely) {
                    marks.put(place, is, minute);
                } else {
                    marks.join(place, is, minute, minute);
                }
            }
        }

        private int ask(Law law, int rule, int x, int y, int minute) {
            int top = 0;
            for (int k = law.stepsFrom(rule); k < law.stepsTo[rule]; k++) {
                int step = law.step[k];
                int kind = step & Law.KIND_MASK;
                if (kind == Law.NOT) {
                    if (top > 0) {
                        stack[top - 1] = 2 - stack[top - 1];
                    }
                } else if (kind == Law.BOTH || kind == Law.EITHER) {
                    if (top > 1) {
                        top--;
                        stack[top - 1] = kind == Law.BOTH
                                ? Math.min(stack[top - 1], stack[top])
                                : Math.max(stack[top - 1], stack[top]);
                    }
                } else if (top < stack.length) {
                    stack[top] = askOperand(step, x, y, minute);
                    top++;
                }
            }
            return top > 0 ? stack[0] : 0;
        }

        private int askOperand(int step, int x, int y, int minute) {
            int kind = step & Law.KIND_MASK;
            if (kind == Law.SO) {
                return 2;
            }
            int coded = step >> 3;
            int thing = (coded & Law.ON_OTHER) == 0 ? x : y;
            if (thing == NONE) {
                return 0;
            }
            int place = thing * MARKS + (coded & Law.MARK_MASK);
            int is = ahead.value[place];
            if (kind == Law.HAS || is == 0) {
                return is;
            }
            int limit = step >> 7;
            if (minute - ahead.latest[place] >= limit) {
                return 0;
            }
            return minute - ahead.earliest[place] < limit ? is : 1;
        }
    }

    /** What is with a mistake and what would be without it, followed side by side. */
    private static final class Trace {
        private final Ledger ledger;
        private final Judge judge;
        private final Marks with = new Marks();
        private final Marks without = new Marks();
        private final int[] reachedBy = new int[MOST_THINGS];
        private final int[] steps = new int[MOST_THINGS];

        Trace(Ledger ledger, Judge judge) {
            this.ledger = ledger;
            this.judge = judge;
        }

        void follow(int mistake, int school, int v, int now) {
            with.begin(ledger);
            without.begin(ledger);
            for (int thing = 0; thing < ledger.things; thing++) {
                reachedBy[thing] = NONE;
            }
            for (int k = 0; k < ledger.events; k++) {
                int event = ledger.order[k];
                if (ledger.minuteOf(event) > v || !ledger.isKnown(event, now)) {
                    continue;
                }
                judge.play(with, school, event);
                if (event != mistake) {
                    judge.play(without, school, event);
                }
                if (!ledger.isMistake(event)) {
                    noteReached(event - MOST_MISTAKES, ledger.mistakeThing[mistake]);
                }
            }
        }

        // An act leaves all but its own things as they were, so only these can be reached by it.
        private void noteReached(int act, int origin) {
            noteThing(ledger.first[act], act, origin);
            if (ledger.second[act] != NONE) {
                noteThing(ledger.second[act], act, origin);
            }
        }

        private void noteThing(int thing, int act, int origin) {
            if (thing != origin && reachedBy[thing] == NONE && otherwise(thing) > 0) {
                reachedBy[thing] = act;
            }
        }

        int otherwise(int thing) {
            return with.unlike(without, thing);
        }

        /** Fills the steps of the way of a thing; answers how many there are. */
        int walkBack(int mistake, int thing) {
            int origin = ledger.mistakeThing[mistake];
            if (thing != origin && reachedBy[thing] == NONE) {
                return 0;
            }
            int length = 0;
            int at = thing;
            for (int k = 0; k < MOST_THINGS && at != NONE && !isStep(at, length); k++) {
                steps[length] = at;
                length++;
                at = at == origin || reachedBy[at] == NONE ? NONE : ledger.otherThing(reachedBy[at], at);
            }
            return length;
        }

        private boolean isStep(int thing, int length) {
            for (int k = 0; k < length; k++) {
                if (steps[k] == thing) {
                    return true;
                }
            }
            return false;
        }

        int cleansings(int school, int thing, int now) {
            for (int times = 0; times <= MOST_CLEANSINGS; times++) {
                if (otherwise(thing) == 0) {
                    return times;
                }
                judge.cleanse(with, school, thing, now);
            }
            return NONE;
        }
    }

    /** The kitchens, whom the schools trust, and the shortest row through some of them. */
    private static final class Kitchens {
        private static final int SIDE = 100;

        private final int[] school = new int[MOST_KITCHENS];
        private final int[] overseer = new int[MOST_KITCHENS];
        private final int[] x = new int[MOST_KITCHENS];
        private final int[] y = new int[MOST_KITCHENS];
        private final boolean[] trusted = new boolean[SCHOOLS * OVERSEERS];
        // For each set of kitchens and each one of it: the shortest way through all, from that one on.
        private final int[] shortest = new int[(1 << MOST_KITCHENS) * MOST_KITCHENS];
        private final int[] stops = new int[MOST_KITCHENS];
        private int stopCount;
        private int size;

        int add(int ofSchool, int by, int atX, int atY) {
            if (size >= MOST_KITCHENS || !isIn(ofSchool, SCHOOLS) || !isIn(by, OVERSEERS)) {
                return NONE;
            }
            if (!isIn(atX, SIDE) || !isIn(atY, SIDE)) {
                return NONE;
            }
            school[size] = ofSchool;
            overseer[size] = by;
            x[size] = atX;
            y[size] = atY;
            size++;
            return size - 1;
        }

        boolean isTrusted(int bySchool, int kitchen) {
            return trusted[bySchool * OVERSEERS + overseer[kitchen]];
        }

        private int distance(int a, int b) {
            return Math.abs(x[a] - x[b]) + Math.abs(y[a] - y[b]);
        }

        /** Fills the stops through the kitchens of a set (bits 0 to 255); answers how long it is. */
        int planTour(int set) {
            stopCount = 0;
            if (!isIn(set - 1, (1 << MOST_KITCHENS) - 1)) {
                return NONE;
            }
            for (int part = 1; part <= set; part++) {
                // Sets with other kitchens in them are never asked for.
                if ((part & ~set) == 0) {
                    measure(part);
                }
            }
            return walkTour(set);
        }

        private void measure(int part) {
            for (int k = 0; k < MOST_KITCHENS; k++) {
                if ((part >> k & 1) == 1) {
                    int rest = part & ~(1 << k);
                    int next = nearest(k, rest);
                    shortest[part * MOST_KITCHENS + k] = next == NONE ? 0 : lengthVia(k, next, rest);
                }
            }
        }

        /** The least kitchen of a set with which the way from k through all of the set is shortest. */
        private int nearest(int k, int set) {
            int best = NONE;
            for (int next = 0; next < MOST_KITCHENS; next++) {
                boolean isThere = (set >> next & 1) == 1;
                if (isThere && (best == NONE || lengthVia(k, next, set) < lengthVia(k, best, set))) {
                    best = next;
                }
            }
            return best;
        }

        private int lengthVia(int k, int next, int set) {
            int step = k == NONE ? 0 : distance(k, next);
            return step + shortest[set * MOST_KITCHENS + next];
        }

        private int walkTour(int set) {
            int left = set;
            int at = nearest(NONE, left);
            int length = lengthVia(NONE, at, left);
            for (int k = 0; k < MOST_KITCHENS && at != NONE; k++) {
                stops[k] = at;
                stopCount = k + 1;
                left &= ~(1 << at);
                at = nearest(at, left);
            }
            return length;
        }
    }

    /** The lots, their passes, and how many units are good where. */
    private static final class Lots {
        private static final int MOST_UNITS = 100000;

        private final Kitchens kitchens;
        private final int[] madeIn = new int[MOST_LOTS];
        private final int[] made = new int[MOST_LOTS];
        private final int[] wasIn = new int[MOST_LOTS];
        private final int[] there = new int[MOST_LOTS * MOST_KITCHENS];
        private final int[] passLot = new int[MOST_PASSES];
        private final int[] passFrom = new int[MOST_PASSES];
        private final int[] passTo = new int[MOST_PASSES];
        private final int[] passUnits = new int[MOST_PASSES];
        private final boolean[] passSealed = new boolean[MOST_PASSES];
        private final int[] all = new int[MOST_KITCHENS];
        private final int[] least = new int[MOST_KITCHENS];
        private final int[] most = new int[MOST_KITCHENS];
        private int size;
        private int passes;

        Lots(Kitchens kitchens) {
            this.kitchens = kitchens;
        }

        int add(int kitchen, int units) {
            if (size >= MOST_LOTS || !isIn(kitchen, kitchens.size) || units < 1 || units > MOST_UNITS) {
                return NONE;
            }
            madeIn[size] = kitchen;
            made[size] = units;
            wasIn[size] = 1 << kitchen;
            there[size * MOST_KITCHENS + kitchen] = units;
            size++;
            return size - 1;
        }

        boolean move(int lot, int a, int b, int n, boolean isSealed) {
            if (passes >= MOST_PASSES || !isIn(lot, size) || a == b || n < 1) {
                return false;
            }
            if (!isIn(a, kitchens.size) || !isIn(b, kitchens.size) || n > there[lot * MOST_KITCHENS + a]) {
                return false;
            }
            passLot[passes] = lot;
            passFrom[passes] = a;
            passTo[passes] = b;
            passUnits[passes] = n;
            passSealed[passes] = isSealed;
            passes++;
            there[lot * MOST_KITCHENS + a] -= n;
            there[lot * MOST_KITCHENS + b] += n;
            wasIn[lot] |= 1 << b;
            return true;
        }

        // Trust and overseers count as they are when asked, so the passes are gone through anew.
        void seeGood(int school, int lot) {
            for (int k = 0; k < MOST_KITCHENS; k++) {
                all[k] = 0;
                least[k] = 0;
                most[k] = 0;
            }
            int origin = madeIn[lot];
            all[origin] = made[lot];
            if (kitchens.isTrusted(school, origin)) {
                least[origin] = made[lot];
                most[origin] = made[lot];
            }
            for (int i = 0; i < passes; i++) {
                if (passLot[i] == lot) {
                    passGood(i, kitchens.isTrusted(school, passFrom[i]));
                }
            }
        }

        private void passGood(int i, boolean isTrusted) {
            int a = passFrom[i];
            int b = passTo[i];
            int n = passUnits[i];
            if (passSealed[i] && isTrusted) {
                least[b] += Math.max(0, n - (all[a] - least[a]));
                most[b] += Math.min(n, most[a]);
            }
            all[a] -= n;
            all[b] += n;
            least[a] = Math.max(0, least[a] - n);
            most[a] = Math.min(most[a], all[a]);
        }
    }

    /** The visitors, and what each of them said of the marks. */
    private static final class Visitors {
        private static final int MOST_WEIGHT = 9;

        private final int[] school = new int[MOST_VISITORS];
        private final int[] weight = new int[MOST_VISITORS];
        // For each mark of each thing a bit for each visitor who says that it has it, or has not.
        private final int[] sayHas = new int[MOST_THINGS * MARKS];
        private final int[] sayHasNot = new int[MOST_THINGS * MARKS];
        private int size;

        int add(int ofSchool, int ofWeight) {
            if (size >= MOST_VISITORS || !isIn(ofSchool, SCHOOLS) || ofWeight < 1 || ofWeight > MOST_WEIGHT) {
                return NONE;
            }
            school[size] = ofSchool;
            weight[size] = ofWeight;
            size++;
            return size - 1;
        }

        void hear(int visitor, int place, boolean has) {
            int bit = 1 << visitor;
            sayHas[place] = has ? sayHas[place] | bit : sayHas[place] & ~bit;
            sayHasNot[place] = has ? sayHasNot[place] & ~bit : sayHasNot[place] | bit;
        }

        int belief(int place) {
            int has = weightOf(sayHas[place]);
            int hasNot = weightOf(sayHasNot[place]);
            if (has > 2 * hasNot) {
                return 1;
            }
            return hasNot > 2 * has ? 0 : NONE;
        }

        private int weightOf(int bits) {
            int sum = 0;
            for (int k = 0; k < size; k++) {
                sum += (bits >> k & 1) * weight[k];
            }
            return sum;
        }
    }

    /** The visits that were drawn, and the row from which the next one is drawn. */
    private static final class Visits {
        private static final int FIRST_PATIENCE = 7;
        private static final int MOST_PATIENCE = 99;
        // A two is told as the kitchen times this and the visitor.
        private static final int KITCHEN_STEP = 10;

        private final Kitchens kitchens;
        private final Visitors visitors;
        private final int[] two = new int[MOST_VISITS];
        private final int[] day = new int[MOST_VISITS];
        private final int[] lastVisitor = new int[MOST_KITCHENS];
        private final int[] lastDay = new int[MOST_KITCHENS];
        private final int[] choices = new int[MOST_KITCHENS * MOST_VISITORS];
        private int size;
        private int chance = 1;
        private int patience = FIRST_PATIENCE;

        Visits(Kitchens kitchens, Visitors visitors) {
            this.kitchens = kitchens;
            this.visitors = visitors;
            for (int k = 0; k < MOST_KITCHENS; k++) {
                lastVisitor[k] = NONE;
            }
        }

        boolean reseed(int seed, int v) {
            if (seed < 0 || v < 1 || v > MOST_PATIENCE) {
                return false;
            }
            chance = seed;
            patience = v;
            return true;
        }

        /** Fills the row of twos of a day; answers how many there are. */
        int fillRow(int today) {
            int urgent = fillChoices(today, true);
            return urgent > 0 ? urgent : fillChoices(today, false);
        }

        private int fillChoices(int today, boolean onlyOverdue) {
            int found = 0;
            for (int k = 0; k < kitchens.size; k++) {
                boolean isVisited = lastVisitor[k] != NONE && lastDay[k] == today;
                boolean isOverdue = today - lastDay[k] > patience;
                if (isVisited || onlyOverdue && !isOverdue) {
                    continue;
                }
                for (int v = 0; v < visitors.size; v++) {
                    if (visitors.school[v] == kitchens.school[k] && lastVisitor[k] != v) {
                        choices[found] = k * KITCHEN_STEP + v;
                        found++;
                    }
                }
            }
            return found;
        }

        int drawOne(int today) {
            if (size >= MOST_VISITS) {
                return NONE;
            }
            int found = fillRow(today);
            if (found < 1) {
                return NONE;
            }
            chance = (int) ((chance * 1103515245L + 12345L) % 2147483648L);
            int drawn = choices[chance / 65536 % found];
            two[size] = drawn;
            day[size] = today;
            lastVisitor[drawn / KITCHEN_STEP] = drawn % KITCHEN_STEP;
            lastDay[drawn / KITCHEN_STEP] = today;
            size++;
            return drawn;
        }

        int kitchenOf(int i) {
            return two[i] / KITCHEN_STEP;
        }

        int visitorOf(int i) {
            return two[i] % KITCHEN_STEP;
        }

        /** The kitchens that a visitor visits on a day, as bits. */
        int kitchensOn(int today, int visitor) {
            int bits = 0;
            for (int i = 0; i < size; i++) {
                if (day[i] == today && visitorOf(i) == visitor) {
                    bits |= 1 << kitchenOf(i);
                }
            }
            return bits;
        }
    }
}
