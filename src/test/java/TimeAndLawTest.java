/** Promises 1 to 8: a new object, now, feasts, the moon, the tape and the laws. */
public final class TimeAndLawTest {
    private static final Check CHECK = new Check("TimeAndLawTest");

    public static void main(String[] args) {
        newObject();
        now();
        feast();
        isFeast();
        moon();
        feed();
        law();
        lawFaults();
        lawLimits();
        rules();
        CHECK.end();
    }

    private static void newObject() {
        SealBook book = new SealBook();
        int[] counts = {0, 0, 0, 0, 0, 0, 0, 0, 0, 0, 1, 7, 0, 0};
        for (int what = 0; what < counts.length; what++) {
            CHECK.due("1: count " + what, book.count(what), counts[what]);
        }
        for (int school = 0; school < 2; school++) {
            CHECK.due("1: common rules", book.rules(school, false), 0);
            CHECK.due("1: rules of feasts", book.rules(school, true), 0);
        }
        CHECK.due("1: no feast", book.isFeast(0), 0);
        CHECK.due("1: empty row", book.row(), 0);
    }

    private static void now() {
        SealBook book = new SealBook();
        CHECK.is("2: the same minute isn't past", book.now(0));
        CHECK.is("2: goes on", book.now(77));
        CHECK.due("2: it is now", book.count(0), 77);
        CHECK.not("2: past", book.now(76));
        CHECK.not("2: below all", book.now(-1));
        CHECK.not("2: least int", book.now(Integer.MIN_VALUE));
        CHECK.due("2: refused ones change nothing", book.count(0), 77);
        CHECK.not("2: behind all", book.now(1440000));
        CHECK.is("2: the last", book.now(1439999));
        CHECK.due("2: it is the last", book.count(0), 1439999);
    }

    private static void feast() {
        SealBook book = new SealBook();
        CHECK.not("3: month -1", book.feast(-1, 0, 1));
        CHECK.not("3: month 12", book.feast(12, 0, 1));
        CHECK.not("3: day -1", book.feast(0, -1, 1));
        CHECK.not("3: day 29", book.feast(0, 29, 1));
        CHECK.not("3: no days", book.feast(0, 0, 0));
        CHECK.not("3: 11 days", book.feast(0, 0, 11));
        CHECK.not("3: great numbers", book.feast(0, 0, Integer.MAX_VALUE));
        CHECK.due("3: none of these", book.count(1), 0);
        CHECK.is("3: edges", book.feast(11, 28, 10));
        CHECK.is("3: edges", book.feast(0, 0, 1));
        for (int k = 2; k < 6; k++) {
            CHECK.is("3: like ones, too", book.feast(0, 0, 1));
        }
        CHECK.not("3: 6 are there", book.feast(1, 1, 1));
        CHECK.due("3: 6", book.count(1), 6);
        CHECK.due("3: the seventh is none", book.isFeast(30), 0);
    }

    private static void isFeast() {
        SealBook book = new SealBook();
        CHECK.due("4: day -1", book.isFeast(-1), -1);
        CHECK.due("4: day 1000", book.isFeast(1000), -1);
        book.feast(11, 28, 10);
        // Month 11 begins on day 324, month 23 on day 679: the feasts go on into months 12 and 24.
        CHECK.due("4: ahead", book.isFeast(351), 0);
        CHECK.due("4: first", book.isFeast(352), 1);
        CHECK.due("4: last", book.isFeast(361), 1);
        CHECK.due("4: behind", book.isFeast(362), 0);
        CHECK.due("4: ahead in the next year", book.isFeast(706), 0);
        CHECK.due("4: first in the next year", book.isFeast(707), 1);
        CHECK.due("4: last in the next year", book.isFeast(716), 1);
        CHECK.due("4: behind in the next year", book.isFeast(717), 0);
        CHECK.due("4: no month ahead of the first", book.isFeast(5), 0);
        book.feast(9, 25, 10);
        CHECK.due("4: the last day", book.isFeast(999), 1);
        CHECK.due("4: the day ahead of it", book.isFeast(998), 0);
    }

    private static void moon() {
        SealBook book = new SealBook();
        int month = 0;
        for (int day = 0; day < 1000; day++) {
            if ((month + 1) * 2953 / 100 <= day) {
                month++;
            }
            CHECK.due("5: month of " + day, book.moon(day, 0), month);
            CHECK.due("5: month of the year of " + day, book.moon(day, 1), month % 12);
            CHECK.due("5: day in the month of " + day, book.moon(day, 2), day - month * 2953 / 100);
        }
        CHECK.due("5: what -1", book.moon(3, -1), -1);
        CHECK.due("5: what 3", book.moon(3, 3), -1);
        CHECK.due("5: day -1", book.moon(-1, 0), -1);
        CHECK.due("5: day 1000", book.moon(1000, 0), -1);
    }

    private static void feed() {
        SealBook book = new SealBook();
        for (int k = 1; k <= 12; k++) {
            CHECK.due("6: bytes", book.feed(0x743a313e, 0x782b613b, 0, 0, 0), 20 * k);
        }
        CHECK.due("6: more than 240", book.feed(0, 0, 0, 0, 0), -1);
        CHECK.due("6: the tape stays", book.count(12), 240);
        CHECK.due("6: the highest first, and the int behind it", book.law(0, false, 7), 0);
        CHECK.due("6: the tape is empty", book.count(12), 0);
        // A byte beyond 127 is no sign.
        CHECK.due("6: bytes beyond 127", book.feed(0xf43a313e, 0x782b6100, 0, 0, 0), 20);
        CHECK.due("6: fault at it", book.law(0, false, 7), 1000);
    }

    private static void law() {
        SealBook book = new SealBook();
        Texts.feed(book, "t:xa>y+a");
        CHECK.due("7: school 2", book.law(2, false, 8), -1);
        CHECK.due("7: school -1", book.law(-1, true, 8), -1);
        CHECK.due("7: too many", book.law(0, false, 21), -1);
        CHECK.due("7: below none", book.law(0, false, -1), -1);
        CHECK.due("7: the tape stays", book.count(12), 20);
        CHECK.due("7: read", book.law(1, true, 8), 0);
        CHECK.due("7: empty then", book.count(12), 0);
        CHECK.due("7: that law alone", book.rules(1, true), 1);
        CHECK.due("7: no other one", book.rules(1, false) + book.rules(0, true) + book.rules(0, false), 0);
        CHECK.due("7: a fault", Texts.law(book, 1, true, "c:1>x-a;"), 1008);
        CHECK.due("7: empty then, too", book.count(12), 0);
        book.thing(1);
        book.thing(0);
        book.feast(0, 0, 1);
        book.act(0, 0, 1, 0, true);
        CHECK.due("7: the law stays", book.mark(1, 1, 0, 0, 0), 2);
        Texts.feed(book, "t:xa>y+a");
        CHECK.due("7: none", book.law(1, true, 0), 0);
        CHECK.due("7: no rules then", book.rules(1, true), 0);
        CHECK.due("7: the tape is empty then", book.count(12), 0);
        CHECK.due("7: it counts for what was", book.mark(1, 1, 0, 0, 0), 0);
    }

    private static void fault(String text, int due) {
        CHECK.due("7: " + text, Texts.law(new SealBook(), 0, false, text), due);
    }

    private static void lawFaults() {
        String good = "k:!(xa&yb<12|!1)>y-h,x+a;c:xh<000007>x-a;l:1>x+b,x+b,y+b,y-b";
        fault(good, 0);
        for (int n = 1; n < good.length(); n++) {
            SealBook book = new SealBook();
            Texts.feed(book, good);
            int got = book.law(0, false, n);
            boolean isWhole = "abh".indexOf(good.charAt(n - 1)) >= 0 && "+-".indexOf(good.charAt(n - 2)) >= 0;
            CHECK.due("7: the first " + n, got, isWhole ? 0 : 1000 + n);
        }
        fault(" t:1>x+a", 1000);
        fault("t :1>x+a", 1001);
        fault("t:>x+a", 1002);
        fault("t:1x+a", 1003);
        fault("t:1>a+a", 1004);
        fault("t:1>xa", 1005);
        fault("t:1>x+i", 1006);
        fault("t:1>x+`", 1006);
        fault("t:xi>x+a", 1003);
        fault("t:x1>x+a", 1003);
        fault("t:xa<>x+a", 1005);
        fault("t:xa<1<2>x+a", 1006);
        fault("t:1<2>x+a", 1003);
        fault("t:12>x+a", 1003);
        fault("t:(1>x+a", 1004);
        fault("t:1)>x+a", 1003);
        fault("t:()>x+a", 1003);
        fault("t:1!>x+a", 1003);
        fault("t:1|>x+a", 1004);
        fault("t:&1>x+a", 1002);
        fault("t:1>x+a,", 1008);
        fault("t:1>x+a;;t:1>x+a", 1008);
        fault("t:1>x+a t:1>x+a", 1007);
        fault("t:1>x+a;q:1>x+a", 1008);
        fault("T:1>x+a", 1000);
        fault("t:xa<123456>x+a", 0);
        fault("t:xa<1234567>x+a", 2011);
        fault("t:xa<0000000>x+a", 2011);
        fault("t:1>x+a,x+b,x+c,x+d", 0);
        fault("t:1>x+a,x+b,x+c,x+d,x+e", 3020);
        fault("t:1>x+a,x+b,x+c,x+d,y", 3020);
        fault("t:1>x+a,x+b,x+c,x+d,z", 1020);
        fault("t:1>x+a,x+b,x+c,x+d,", 1020);
        fault("t:!!!!!!!!1>x+a", 0);
        fault("t:!!!!!!!!!1>x+a", 5010);
        fault("t:!!!!!!!!(1)>x+a", 5010);
        fault("t:!(!(!(!(1))))>x+a", 0);
        fault("t:!(!(!(!((1)))))>x+a", 5010);
        fault("t:!!!!!!!!1&!!!!!!!!1|((((((((1))))))))>x+a", 0);
        fault("t:(!1&!1&!1&!1&!1&!1&!1&!1&!1)>x+a", 0);
        fault("t:((((((((1))))))&!(1)))>x+a", 0);
    }

    private static void lawLimits() {
        String rule = "t:1>x+a";
        fault(repeat(rule, ";", 24), 0);
        fault(repeat(rule, ";", 24) + ";l", 4192);
        fault(repeat(rule, ";", 24) + ";x", 1192);
        fault(repeat(rule, ";", 24) + ";", 1192);
        fault("l:" + repeat("1", "|", 80) + ">x+a", 0);
        fault("l:" + repeat("1", "|", 81) + ">x+a", 6162);
        fault("l:" + repeat("1", "|", 80) + "|xq>x+a", 6162);
        fault("l:" + repeat("1", "|", 80) + "|q>x+a", 1162);
        fault("l:" + repeat("1", "|", 80) + ">x+a;c:x", 6168);
        fault("l:" + repeat("1", "|", 79) + ">x+a;c:ya<11>x+a", 0);
        fault("l:" + repeat("xa", "&", 60) + ">x+a;c:" + repeat("1", "&", 20) + ">x-a", 0);
        // 23 rules of ten bytes with the ; behind each, and a last one of ten bytes: all 240.
        fault(repeat("t:1&1>x+a", ";", 23) + ";t:!1&1>x+a", 0);
        fault(repeat("t:1&1>x+a", ";", 23) + ";t:!1&1>x+,", 1239);
    }

    private static String repeat(String text, String between, int times) {
        StringBuilder all = new StringBuilder(text);
        for (int k = 1; k < times; k++) {
            all.append(between).append(text);
        }
        return all.toString();
    }

    private static void rules() {
        SealBook book = new SealBook();
        Texts.law(book, 0, false, "t:1>x+a;c:1>x-a");
        Texts.law(book, 0, true, "l:1>x-a");
        CHECK.due("8: two", book.rules(0, false), 2);
        CHECK.due("8: one", book.rules(0, true), 1);
        CHECK.due("8: none", book.rules(1, false), 0);
        Texts.law(book, 0, false, "t:1>x+a;c:1>x-a;");
        CHECK.due("8: two still", book.rules(0, false), 2);
        CHECK.due("8: school -1", book.rules(-1, false), -1);
        CHECK.due("8: school 2", book.rules(2, false), -1);
    }
}
