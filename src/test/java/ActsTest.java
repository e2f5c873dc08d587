/** Promises 9 to 19 and 37: things, acts, mistakes, what is, quarrels, where mistakes lead. */
public final class ActsTest {
    private static final Check CHECK = new Check("ActsTest");
    private static final int LAST = 1439999;

    public static void main(String[] args) {
        thing();
        act();
        strike();
        mistake();
        order();
        markOfConditions();
        markOfTimes();
        markOfEffects();
        markOfFeasts();
        markRefused();
        since();
        quarrel();
        leads();
        reached();
        way();
        wayWithoutAnotherThing();
        mend();
        look();
        CHECK.end();
    }

    /** A book at a minute, with a common law of school 0 and things with marks. */
    private static SealBook book(int now, String law, int... things) {
        SealBook book = new SealBook();
        book.now(now);
        CHECK.due("law " + law, law.isEmpty() ? 0 : Texts.law(book, 0, false, law), 0);
        for (int marks : things) {
            book.thing(marks);
        }
        return book;
    }

    private static int mark(SealBook book, int thing, int mark) {
        return book.mark(0, thing, mark, LAST, LAST);
    }

    private static void isSince(String what, SealBook book, int thing, int mark, int earliest, int latest) {
        CHECK.due(what + ", earliest", book.since(0, thing, mark, LAST, LAST, 0), earliest);
        CHECK.due(what + ", latest", book.since(0, thing, mark, LAST, LAST, 1), latest);
    }

    private static void thing() {
        SealBook book = new SealBook();
        CHECK.due("9: marks -1", book.thing(-1), -1);
        CHECK.due("9: marks 256", book.thing(256), -1);
        CHECK.due("9: all marks", book.thing(255), 0);
        for (int k = 1; k < 20; k++) {
            CHECK.due("9: number", book.thing(k), k);
        }
        CHECK.due("9: 20 are there", book.thing(0), -1);
        CHECK.due("9: 20", book.count(2), 20);
        for (int k = 1; k < 20; k++) {
            for (int mark = 0; mark < 8; mark++) {
                CHECK.due("9: marks of " + k, book.mark(1, k, mark, 0, 0), (k >> mark & 1) * 2);
            }
        }
        CHECK.due("9: since 0", book.since(1, 0, 7, LAST, LAST, 1), 0);
    }

    private static void act() {
        SealBook book = book(10, "", 0, 0);
        CHECK.due("10: kind -1", book.act(-1, 0, 1, 1, true), -1);
        CHECK.due("10: kind 4", book.act(4, 0, -1, 1, true), -1);
        CHECK.due("10: thing -1", book.act(0, -1, 1, 1, true), -1);
        CHECK.due("10: thing 2", book.act(1, 2, 1, 1, true), -1);
        CHECK.due("10: other thing 2", book.act(1, 1, 2, 1, true), -1);
        CHECK.due("10: without another one", book.act(1, 1, -1, 1, true), -1);
        CHECK.due("10: a is b", book.act(0, 1, 1, 1, true), -1);
        CHECK.due("10: cleansed with another one", book.act(2, 0, 1, 1, true), -1);
        CHECK.due("10: heated with another one", book.act(3, 0, 1, 1, true), -1);
        CHECK.due("10: heated with -2", book.act(3, 0, -2, 1, true), -1);
        CHECK.due("10: behind now", book.act(0, 0, 1, 11, true), -1);
        CHECK.due("10: no minute", book.act(0, 0, 1, -1, true), -1);
        CHECK.due("10: none of these", book.count(3), 0);
        CHECK.due("10: at now", book.act(0, 0, 1, 10, true), 0);
        CHECK.due("10: cooked", book.act(1, 1, 0, 0, false), 1);
        CHECK.due("10: cleansed", book.act(2, 1, -1, 3, true), 2);
        CHECK.due("10: heated", book.act(3, 0, -1, 2, true), 3);
        for (int k = 4; k < 200; k++) {
            CHECK.due("10: number", book.act(3, 0, -1, k % 11, true), k);
        }
        CHECK.due("10: 200 are there", book.act(3, 0, -1, 0, true), -1);
        CHECK.due("10: 200", book.count(3), 200);
    }

    private static void strike() {
        SealBook book = book(5, "t:xa>y+a", 1, 0);
        book.act(0, 0, 1, 2, true);
        CHECK.not("11: -1", book.strike(-1));
        CHECK.not("11: 1", book.strike(1));
        book.now(8);
        CHECK.is("11: struck", book.strike(0));
        CHECK.not("11: it is", book.strike(0));
        CHECK.due("11: known at 5", book.mark(0, 1, 0, 2, 5), 2);
        CHECK.due("11: not known at 4", book.mark(0, 1, 0, 2, 4), 0);
        CHECK.due("11: known at 7", book.mark(0, 1, 0, 2, 7), 2);
        CHECK.due("11: known no more at 8", book.mark(0, 1, 0, 2, 8), 0);
        book.act(0, 1, 0, 8, true);
        book.strike(1);
        CHECK.due("11: never known", book.mark(0, 1, 0, 8, 8), 0);
        CHECK.due("11: struck at", book.look(1, 6), 8);
    }

    private static void mistake() {
        SealBook book = book(5, "", 0);
        CHECK.due("12: thing -1", book.mistake(-1, 0, 0), -1);
        CHECK.due("12: thing 1", book.mistake(1, 0, 0), -1);
        CHECK.due("12: mark -1", book.mistake(0, -1, 0), -1);
        CHECK.due("12: mark 8", book.mistake(0, 8, 0), -1);
        CHECK.due("12: minute -1", book.mistake(0, 0, -1), -1);
        CHECK.due("12: behind now", book.mistake(0, 0, 6), -1);
        CHECK.due("12: none of these", book.count(4), 0);
        CHECK.due("12: at now", book.mistake(0, 7, 5), 0);
        CHECK.due("12: not known at 4", book.mark(0, 0, 7, 5, 4), 0);
        CHECK.due("12: not at minute 4", book.mark(0, 0, 7, 4, 5), 0);
        CHECK.due("12: surely", book.mark(0, 0, 7, 5, 5), 2);
        isSince("12: since", book, 0, 7, 5, 5);
        for (int k = 1; k < 10; k++) {
            CHECK.due("12: number", book.mistake(0, 0, 0), k);
        }
        CHECK.due("12: 10 are there", book.mistake(0, 0, 0), -1);
        CHECK.due("12: 10", book.count(4), 10);
    }

    private static void order() {
        SealBook book = book(9, "t:xa>y+a;t:xb>y-a", 0, 2, 0);
        book.act(0, 0, 2, 4, true);
        book.act(0, 1, 2, 4, true);
        book.act(0, 0, 2, 3, true);
        CHECK.due("13: nothing yet", mark(book, 2, 0), 0);
        book.mistake(0, 0, 4);
        CHECK.due("13: mistakes first", book.mark(0, 0, 0, 4, 9), 2);
        CHECK.due("13: the act of this minute with the greater number comes behind", book.mark(0, 2, 0, 4, 9), 0);
        book.act(0, 0, 2, 4, true);
        CHECK.due("13: and this one behind it", book.mark(0, 2, 0, 4, 9), 2);
        CHECK.due("13: up to v", book.mark(0, 2, 0, 3, 9), 0);
        isSince("13: since", book, 2, 0, 4, 4);
        book.mistake(0, 0, 2);
        CHECK.due("13: told later, done earlier", book.mark(0, 2, 0, 3, 9), 2);
    }

    private static int asked(String condition, int x, int y) {
        SealBook book = book(0, "t:" + condition + ">x+h", x, y);
        // Only the first one is asked for, so that the second one as x must not matter.
        book.act(0, 0, 1, 0, true);
        return mark(book, 0, 7);
    }

    private static void markOfConditions() {
        CHECK.due("13: 1", asked("1", 0, 0), 2);
        CHECK.due("13: !1", asked("!1", 0, 0), 0);
        CHECK.due("13: !!1", asked("!!1", 0, 0), 2);
        CHECK.due("13: xa", asked("xa", 1, 0), 2);
        CHECK.due("13: not xa", asked("xa", 126, 127), 0);
        CHECK.due("13: yc", asked("yc", 0, 4), 2);
        CHECK.due("13: & goes ahead of |", asked("1|1&!1", 0, 0), 2);
        CHECK.due("13: brackets", asked("(1|1)&!1", 0, 0), 0);
        CHECK.due("13: ! binds its piece alone", asked("!1&!1|!!1", 0, 0), 2);
        CHECK.due("13: ! of brackets", asked("!(xa|xb)", 4, 0), 2);
        SealBook book = book(0, "c:!ya&!ya<5>y+a,x+b;l:xa|ya|ya<9>x+c", 0);
        book.act(2, 0, -1, 0, true);
        CHECK.due("13: without a y all of it is 0", mark(book, 0, 1), 2);
        CHECK.due("13: an effect on it is none", mark(book, 0, 0), 0);
        book.act(3, 0, -1, 0, true);
        CHECK.due("13: this, too", mark(book, 0, 2), 0);
        book = book(0, "t:1>x+a;k:1>x+b;c:1>x+c;l:1>x+d", 0, 0);
        int[] kinds = {0, 1, 2, 3};
        for (int kind : kinds) {
            CHECK.due("13: not yet", mark(book, 0, kind), 0);
            book.act(kind, 0, kind < 2 ? 1 : -1, 0, true);
            CHECK.due("13: by rules of its kind", mark(book, 0, kind), 2);
            CHECK.due("13: on the second, too, as x", mark(book, 1, kind), kind < 2 ? 2 : 0);
        }
        book = book(0, "t:xa>y+a", 1, 0, 0);
        book.act(0, 1, 0, 0, true);
        CHECK.due("13: the second as x", mark(book, 1, 0), 2);
    }

    private static void markOfTimes() {
        SealBook book = book(1000, "t:xa>y+a;c:xa<10>x+b;l:xa<0|xa<000>x+b", 1, 0, 0);
        book.act(0, 0, 1, 100, true);
        book.act(3, 1, -1, 100, true);
        CHECK.due("13: nothing is less than 0 ago", mark(book, 1, 1), 0);
        book.act(2, 1, -1, 110, true);
        CHECK.due("13: 10 ago", mark(book, 1, 1), 0);
        book.act(2, 1, -1, 109, true);
        CHECK.due("13: 9 ago", mark(book, 1, 1), 2);
        book.act(0, 0, 2, 200, true);
        book.act(0, 0, 2, 210, false);
        isSince("13: either", book, 2, 0, 200, 210);
        book.act(2, 2, -1, 220, true);
        CHECK.due("13: 10 to 20 ago", mark(book, 2, 1), 0);
        book.act(2, 2, -1, 219, true);
        CHECK.due("13: 9 to 19 ago", mark(book, 2, 1), 1);
        isSince("13: perhaps", book, 2, 1, 219, 219);
        int[][] due = {{209, 2}, {210, 1}, {214, 1}, {215, 0}};
        for (int[] one : due) {
            book = book(1000, "t:xa>y+a;c:xa<10>x+b", 1, 0);
            book.act(0, 0, 1, 200, true);
            book.act(0, 0, 1, 205, false);
            book.act(2, 1, -1, one[0], true);
            CHECK.due("13: surely there since 200 to 205, at " + one[0], mark(book, 1, 1), one[1]);
        }
        book = book(1000, "t:xa>y+a;c:xa<10>x+b;l:!xa<9>x+c", 1, 0);
        book.act(0, 0, 1, 100, false);
        book.act(2, 1, -1, 101, true);
        CHECK.due("13: perhaps there, less than 10 ago", mark(book, 1, 1), 1);
        book.act(3, 1, -1, 101, true);
        CHECK.due("13: perhaps not", mark(book, 1, 2), 1);
        book.act(2, 1, -1, 110, true);
        isSince("13: not again, 10 ago", book, 1, 1, 101, 101);
    }

    private static void markOfEffects() {
        SealBook book = book(100, "t:xa>y+b,y-b,y+c;k:xb>y+d,y-a;t:yc>x+e", 1, 0);
        book.act(0, 0, 1, 7, true);
        CHECK.due("13: upon what the ones ahead left", mark(book, 1, 1), 0);
        CHECK.due("13: the last one", mark(book, 1, 2), 2);
        CHECK.due("13: asked of what was ahead", mark(book, 0, 4), 0);
        book.act(0, 1, 0, 8, true);
        CHECK.due("13: the next one asks of it", mark(book, 0, 4), 2);
        book = book(100, "t:1>x+a;k:xa>y+b;c:xa>x-b,x-a,x+a;l:xb>x-b", 0, 2);
        book.act(0, 0, 1, 10, false);
        isSince("13: perhaps", book, 0, 0, 10, 10);
        book.act(1, 0, 1, 20, true);
        CHECK.due("13: 2 and perhaps 2 again", mark(book, 1, 1), 2);
        isSince("13: since either", book, 1, 1, 0, 20);
        book.act(1, 1, 0, 25, true);
        isSince("13: perhaps from perhaps", book, 0, 1, 20, 25);
        book.act(2, 1, -1, 30, true);
        CHECK.due("13: perhaps gone", mark(book, 1, 1), 1);
        isSince("13: since as it was", book, 1, 1, 0, 25);
        isSince("13: perhaps gone, perhaps new", book, 1, 0, 10, 30);
        CHECK.due("13: it is perhaps", mark(book, 1, 0), 1);
        book.act(3, 1, -1, 40, false);
        CHECK.due("13: perhaps, perhaps gone", mark(book, 1, 1), 1);
        book.act(0, 0, 1, 50, true);
        isSince("13: surely new", book, 1, 0, 50, 50);
        CHECK.due("13: surely", mark(book, 1, 0), 2);
        book.act(0, 0, 1, 60, false);
        CHECK.due("13: surely either way", mark(book, 1, 0), 2);
        isSince("13: since either, not sure", book, 1, 0, 50, 60);
    }

    private static void markOfFeasts() {
        SealBook book = book(3 * 1440, "t:1>x+a", 0, 0);
        book.feast(0, 1, 1);
        book.act(0, 0, 1, 1440, true);
        CHECK.due("13: no law of feasts", mark(book, 0, 0), 2);
        Texts.law(book, 0, true, "t:1>x+b");
        CHECK.due("13: not by the common law", mark(book, 0, 0), 0);
        CHECK.due("13: by the law of feasts", mark(book, 0, 1), 2);
        book.act(0, 0, 1, 1439, true);
        isSince("13: the day ahead by the common law", book, 0, 0, 1439, 1439);
        isSince("13: the feast", book, 0, 1, 1440, 1440);
        book.act(0, 0, 1, 2880, true);
        isSince("13: the day behind by the common law", book, 0, 0, 2880, 2880);
        book.feast(0, 2, 1);
        isSince("13: a feast told later", book, 0, 1, 2880, 2880);
        CHECK.due("13: the other school", book.mark(1, 0, 1, LAST, LAST), 0);
    }

    private static void markRefused() {
        SealBook book = book(5, "", 1);
        CHECK.due("13: school -1", book.mark(-1, 0, 0, 0, 0), -1);
        CHECK.due("13: school 2", book.mark(2, 0, 0, 0, 0), -1);
        CHECK.due("13: thing -1", book.mark(0, -1, 0, 0, 0), -1);
        CHECK.due("13: thing 1", book.mark(0, 1, 0, 0, 0), -1);
        CHECK.due("13: mark -1", book.mark(0, 0, -1, 0, 0), -1);
        CHECK.due("13: mark 8", book.mark(0, 0, 8, 0, 0), -1);
        CHECK.due("13: v -1", book.mark(0, 0, 0, -1, 0), -1);
        CHECK.due("13: v 1440000", book.mark(0, 0, 0, 1440000, 0), -1);
        CHECK.due("13: t -1", book.mark(0, 0, 0, 0, -1), -1);
        CHECK.due("13: t 1440000", book.mark(0, 0, 0, 0, 1440000), -1);
        CHECK.due("13: minutes behind now", book.mark(0, 0, 0, LAST, LAST), 2);
    }

    private static void since() {
        SealBook book = book(50, "t:xa>y+a", 1, 0);
        book.act(0, 0, 1, 20, false);
        book.act(0, 0, 1, 30, true);
        CHECK.due("14: not yet", book.since(0, 1, 0, 19, 50, 0), -1);
        CHECK.due("14: perhaps", book.since(0, 1, 0, 29, 50, 1), 20);
        CHECK.due("14: surely", book.since(0, 1, 0, 30, 50, 0), 30);
        CHECK.due("14: not known", book.since(0, 1, 0, 30, 49, 0), -1);
        CHECK.due("14: born with", book.since(0, 0, 0, 30, 49, 1), 0);
        CHECK.due("14: what -1", book.since(0, 0, 0, 30, 50, -1), -1);
        CHECK.due("14: what 2", book.since(0, 0, 0, 30, 50, 2), -1);
        CHECK.due("14: school 2", book.since(2, 0, 0, 30, 50, 0), -1);
        CHECK.due("14: thing 2", book.since(0, 2, 0, 30, 50, 0), -1);
        CHECK.due("14: mark 8", book.since(0, 0, 8, 30, 50, 0), -1);
        CHECK.due("14: v", book.since(0, 0, 0, -1, 50, 0), -1);
        CHECK.due("14: t", book.since(0, 0, 0, 30, 1440000, 0), -1);
    }

    private static void quarrel() {
        SealBook book = book(50, "t:xa>y+a;k:1>x+h", 1, 0, 0);
        Texts.law(book, 1, false, "t:xa>y+b");
        CHECK.due("15: none", book.quarrel(0, 0), -1);
        book.act(0, 0, 2, 10, false);
        book.act(0, 0, 1, 20, true);
        int[][] due = {{1, 0, 2, 0}, {1, 1, 0, 2}, {2, 0, 1, 0}, {2, 1, 0, 1}};
        for (int i = 0; i < due.length; i++) {
            for (int what = 0; what < 4; what++) {
                CHECK.due("15: quarrel " + i + ", " + what, book.quarrel(i, what), due[i][what]);
            }
        }
        CHECK.due("15: four", book.count(13), 4);
        CHECK.due("15: no fifth", book.quarrel(4, 0), -1);
        CHECK.due("15: -1", book.quarrel(-1, 0), -1);
        CHECK.due("15: what -1", book.quarrel(0, -1), -1);
        CHECK.due("15: what 4", book.quarrel(0, 4), -1);
        Texts.law(book, 1, false, "t:1>y-h;t:xa>y+a");
        CHECK.due("15: alike, though since another minute", book.count(13), 0);
        book.act(1, 0, 1, 50, true);
        CHECK.due("15: at now", book.count(13), 2);
        book.strike(2);
        CHECK.due("15: as known now", book.count(13), 0);
    }

    private static void leads() {
        SealBook book = book(100, "t:xa>y+a;c:1>x-a;k:!xa>x+b", 0, 0, 1, 0);
        CHECK.due("16: no mistake", book.leads(0, 0, 0, 0), -1);
        book.mistake(0, 0, 10);
        book.mistake(0, 0, 30);
        book.act(0, 0, 1, 20, true);
        book.act(0, 0, 3, 25, false);
        book.act(2, 0, -1, 27, true);
        book.act(1, 1, 3, 40, true);
        CHECK.due("16: itself, ahead", book.leads(0, 0, 0, 9), 0);
        CHECK.due("16: itself", book.leads(0, 0, 0, 10), 2);
        CHECK.due("16: itself, cleansed", book.leads(0, 0, 0, 27), 0);
        CHECK.due("16: another mistake", book.leads(0, 0, 0, 30), 0);
        CHECK.due("16: the other mistake leads on", book.leads(1, 0, 0, 30), 2);
        CHECK.due("16: that one doesn't to 1", book.leads(1, 0, 1, 100), 0);
        CHECK.due("16: surely", book.leads(0, 0, 1, 20), 2);
        CHECK.due("16: perhaps", book.leads(0, 0, 3, 25), 1);
        CHECK.due("16: not", book.leads(0, 0, 2, 100), 0);
        CHECK.due("16: surely not what it would be", book.leads(0, 0, 1, 40), 2);
        CHECK.due("16: by the other school", book.leads(0, 1, 1, 100), 0);
        CHECK.due("16: i -1", book.leads(-1, 0, 0, 0), -1);
        CHECK.due("16: i 2", book.leads(2, 0, 0, 0), -1);
        CHECK.due("16: school", book.leads(0, 2, 0, 0), -1);
        CHECK.due("16: thing", book.leads(0, 0, 4, 0), -1);
        CHECK.due("16: v", book.leads(0, 0, 0, -1), -1);
        CHECK.due("16: v behind all", book.leads(0, 0, 0, 1440000), -1);
        CHECK.due("16: v behind now", book.leads(0, 0, 1, LAST), 2);
    }

    private static void reached() {
        SealBook book = book(100, "t:xa>y+a;c:1>x-a", 0, 0, 0, 1, 0);
        book.mistake(0, 0, 10);
        book.act(0, 1, 2, 30, true);
        book.act(0, 0, 1, 20, true);
        book.act(0, 0, 2, 40, true);
        book.act(0, 0, 3, 40, true);
        book.act(2, 1, -1, 25, true);
        CHECK.due("17: by the act", book.reached(0, 0, 1), 1);
        CHECK.due("17: cleansed in between", book.reached(0, 0, 2), 2);
        CHECK.due("17: its own thing", book.reached(0, 0, 0), -1);
        CHECK.due("17: it had it", book.reached(0, 0, 3), -1);
        CHECK.due("17: not reached", book.reached(0, 0, 4), -1);
        book.strike(4);
        CHECK.due("17: the first one now", book.reached(0, 0, 2), 0);
        book.strike(1);
        CHECK.due("17: not any more", book.reached(0, 0, 1), -1);
        CHECK.due("17: but later", book.reached(0, 0, 2), 2);
        CHECK.due("17: school 1", book.reached(0, 1, 2), -1);
        CHECK.due("17: i", book.reached(1, 0, 2), -1);
        CHECK.due("17: i -1", book.reached(-1, 0, 2), -1);
        CHECK.due("17: school -1", book.reached(0, -1, 2), -1);
        CHECK.due("17: thing -1", book.reached(0, 0, -1), -1);
        CHECK.due("17: thing 5", book.reached(0, 0, 5), -1);
    }

    private static void isWay(String what, SealBook book, int thing, int... due) {
        for (int k = 0; k < due.length; k++) {
            CHECK.due("18: " + what + ", " + k, book.way(0, 0, thing, k), due[k]);
        }
        CHECK.due("18: " + what + ", behind it", book.way(0, 0, thing, due.length), -1);
    }

    private static void way() {
        SealBook book = book(100, "t:xa>y+a", 0, 0, 0, 0, 0);
        book.mistake(2, 0, 10);
        book.act(0, 3, 2, 11, true);
        book.act(0, 3, 1, 12, false);
        book.act(0, 0, 1, 13, true);
        book.act(0, 2, 0, 14, true);
        isWay("along things", book, 0, 0, 1, 3, 2);
        isWay("a part of it", book, 3, 3, 2);
        isWay("the mistake's", book, 2, 2);
        isWay("not reached", book, 4);
        CHECK.due("18: k -1", book.way(0, 0, 0, -1), -1);
        CHECK.due("18: k 20", book.way(0, 0, 0, 20), -1);
        CHECK.due("18: greatest k", book.way(0, 0, 0, Integer.MAX_VALUE), -1);
        CHECK.due("18: i", book.way(1, 0, 0, 0), -1);
        CHECK.due("18: school", book.way(0, 2, 0, 0), -1);
        CHECK.due("18: thing", book.way(0, 0, 5, 0), -1);
        CHECK.due("18: the mistake's by the other school", book.way(0, 1, 2, 0), 2);
        CHECK.due("18: the others not", book.way(0, 1, 3, 0), -1);
        book = book(100, "t:xa>y+a", new int[20]);
        book.mistake(0, 0, 0);
        int[] all = new int[20];
        for (int k = 0; k < 20; k++) {
            all[k] = 19 - k;
            if (k > 0) {
                book.act(0, k - 1, k, k, true);
            }
        }
        isWay("all things", book, 19, all);
    }

    private static void wayWithoutAnotherThing() {
        // The mark itself is on thing 1 either way, but since another minute.
        SealBook book = book(100, "t:xa>y+a;c:xa<10>x-a;k:xa>y+b", 0, 1, 0);
        book.mistake(0, 0, 10);
        book.act(0, 0, 1, 20, true);
        CHECK.due("18: alike so far", book.leads(0, 0, 1, 20), 0);
        book.act(2, 1, -1, 25, true);
        CHECK.due("17: reached by an act without another thing", book.reached(0, 0, 1), 1);
        book.act(1, 1, 2, 30, true);
        isWay("it ends there", book, 2, 2, 1);
        isWay("it is all", book, 1, 1);
        // Thing 1 is never unlike itself, but by its minute it makes thing 2 unlike.
        book = book(100, "t:xa>y+a;k:xa<15>y+b", 0, 1, 0);
        book.mistake(0, 0, 10);
        book.act(0, 0, 1, 20, true);
        book.act(1, 1, 2, 30, true);
        isWay("through one that was not reached", book, 2, 2, 1);
        CHECK.due("17: that one was not", book.reached(0, 0, 1), -1);
        // Things 1 and 2 become unlike by one and the same act.
        book = book(100, "t:xa>y+a;k:xa<15>y+b,x+b", 0, 1, 0);
        book.mistake(0, 0, 10);
        book.act(0, 0, 1, 20, true);
        book.act(1, 1, 2, 30, true);
        isWay("one comes again", book, 2, 2, 1);
        isWay("the other comes again", book, 1, 1, 2);
    }

    private static void mend() {
        SealBook book = book(200, "t:xa>y+a,y+b,y+c,y+d", 0, 0, 0, 4);
        book.mistake(0, 0, 10);
        book.act(0, 0, 1, 20, true);
        CHECK.due("19: not reached", book.mend(0, 0, 2), 0);
        CHECK.due("19: no rule helps", book.mend(0, 0, 1), -1);
        // Each cleansing takes the next mark, as long as the one ahead of it is gone.
        String steps = "c:!xa&!xb&!xc>x-d;c:!xa&!xb>x-c;c:!xa>x-b;c:1>x-a";
        CHECK.due("law", Texts.law(book, 0, false, "t:xa>y+a,y+b,y+c,y+d;" + steps), 0);
        CHECK.due("19: four times", book.mend(0, 0, 1), 4);
        CHECK.due("19: its own thing once", book.mend(0, 0, 0), 1);
        CHECK.due("19: nothing was done", book.count(3), 1);
        CHECK.due("19: it is still there", mark(book, 1, 0), 2);
        String more = "t:xa>y+a,y+b,y+c,y+d;t:xa>y+e;c:!xa&!xb&!xc&!xd>x-e;";
        CHECK.due("law", Texts.law(book, 0, false, more + steps), 0);
        CHECK.due("19: five times", book.mend(0, 0, 1), 5);
        String most = "t:xa>y+a,y+b,y+c,y+d;t:xa>y+e,y+f;c:!xa&!xb&!xc&!xd&!xe>x-f;c:!xa&!xb&!xc&!xd>x-e;";
        CHECK.due("law", Texts.law(book, 0, false, most + steps), 0);
        CHECK.due("19: five times don't do", book.mend(0, 0, 1), -1);
        book = book(200, "t:xa>y+a;c:xa<180>x-c;c:xa<181>x-a", 0, 4);
        book.mistake(0, 0, 10);
        book.act(0, 0, 1, 20, true);
        CHECK.due("19: at now", book.mend(0, 0, 1), 1);
        book.now(201);
        CHECK.due("19: too late", book.mend(0, 0, 1), -1);
        Texts.law(book, 0, false, "t:xa>y+a;c:1>x-a,x-c");
        CHECK.due("19: what it would have must stay", book.mend(0, 0, 1), -1);
        book.feast(0, 0, 1);
        Texts.law(book, 0, true, "t:xa>y+a;c:1>x-a");
        CHECK.due("19: by the law of now", book.mend(0, 0, 1), 1);
        CHECK.due("19: i", book.mend(1, 0, 1), -1);
        CHECK.due("19: i -1", book.mend(-1, 0, 1), -1);
        CHECK.due("19: school", book.mend(0, 2, 1), -1);
        CHECK.due("19: thing", book.mend(0, 0, 2), -1);
        book = book(200, "t:xa>y+a;c:xa<170>x-a", 0, 0);
        book.mistake(0, 0, 10);
        book.act(0, 0, 1, 20, true);
        book.act(0, 0, 1, 40, false);
        CHECK.due("19: perhaps is not as it would be", book.mend(0, 0, 1), -1);
    }

    private static void look() {
        SealBook book = book(50, "", 0, 0);
        CHECK.due("37: none there", book.look(0, 0), -1);
        book.act(1, 1, 0, 20, true);
        book.now(60);
        book.act(3, 1, -1, 30, false);
        book.now(70);
        book.strike(1);
        int[][] due = {{1, 1, 0, 20, 1, 50, -1}, {3, 1, -1, 30, 0, 60, 70}};
        for (int i = 0; i < 2; i++) {
            for (int what = 0; what < 7; what++) {
                CHECK.due("37: act " + i + ", " + what, book.look(i, what), due[i][what]);
            }
            CHECK.due("37: what 7", book.look(i, 7), -1);
            CHECK.due("37: what -1", book.look(i, -1), -1);
        }
        CHECK.due("37: act 2", book.look(2, 0), -1);
        CHECK.due("37: act -1", book.look(-1, 0), -1);
    }
}
