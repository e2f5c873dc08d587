/** What the document says of the tape and of laws as texts, with their faults: a test for each sentence. */
final class LawSentences {
    private static final String TERMS = "Terms 2";
    private static final int NONE = SealBook.NONE;
    private static final String PIECE = "!(1xy";
    private static final String MARK = "abcdefgh";
    private static final String DIGIT = "0123456789";

    private final Check check;

    LawSentences(Check check) {
        this.check = check;
    }

    void ask() {
        feedBytes();
        feedTooMany();
        lawFirstBytes();
        lawNoRules();
        lawFault();
        lawRefused();
        rules();
        rulesRefused();
        twoLawsEach();
        textOf240Bytes();
        rulesBetween();
        rule();
        effectsBetween();
        effect();
        condition();
        piece();
        number();
        faultFirst();
        faultWhatCannotStand();
        faultTheEnd();
        faultDigit();
        faultEffect();
        faultRule();
        faultOpen();
        faultOpenTillItEnds();
        faultSigns();
    }

    /** What law answers to a text on a new book. */
    private static int answer(String text) {
        return Texts.law(new SealBook(), 0, false, text);
    }

    private void due(String text, int due) {
        check.due(text, answer(text), due);
    }

    private void feedBytes() {
        check.says(6, "Twenty bytes come behind the tape, the highest of each int first: how many it has");
        SealBook book = new SealBook();
        // t:xa>y+a;c:xb|yc>x-d and ;l:1>x-a,x-b,x-c,x-d
        check.due("feed", book.feed(0x743a7861, 0x3e792b61, 0x3b633a78, 0x627c7963, 0x3e782d64), 20);
        check.due("count(12)", book.count(12), 20);
        check.due("feed behind it", book.feed(0x3b6c3a31, 0x3e782d61, 0x2c782d62, 0x2c782d63, 0x2c782d64), 40);
        check.due("law of all", book.law(0, false, 40), 0);
        check.due("its RULES", book.rules(0, false), 3);
        check.due("feed on the empty tape", book.feed(0, 0, 0, 0, 0), 20);
        book = new SealBook();
        book.feed(0x613e783a, 0x743a7861, 0, 0, 0);
        check.due("the lowest byte doesn't come first", book.law(0, false, 4), 1000);
        for (int one = 0; one < 256; one++) {
            book = new SealBook();
            book.feed(one << 24 | 0x3a313e, 0x782b6100, -1, -1, -1);
            check.due("byte " + one, book.law(0, false, 7), "tkcl".indexOf(one) < 0 ? 1000 : 0);
        }
    }

    private void feedTooMany() {
        check.says(6, "NONE if that would be more than 240.");
        SealBook book = new SealBook();
        for (int k = 1; k <= 12; k++) {
            check.due("feed " + k, book.feed(k, 0, 0, 0, 0), 20 * k);
        }
        check.due("feed 13", book.feed(13, 0, 0, 0, 0), NONE);
        check.due("bytes", book.count(12), 240);
        check.none("feed on a full tape", Books::fullTape, b -> b.feed(0x74747474, 0, 0, 0, 0));
        book = Books.fullTape();
        book.feed(0x74747474, 0, 0, 0, 0);
        check.due("the tape is as it was", book.law(0, false, 240), 0);
        check.due("behind it there is room", book.feed(0, 0, 0, 0, 0), 20);
    }

    private void lawFirstBytes() {
        check.says(7, "The first n bytes of the tape (empty then) are the LAW of a SCHOOL "
                + "(feast: that of FEASTS) from now on");
        for (int which = 0; which < 4; which++) {
            SealBook book = Books.at(0, "", 0, 0);
            book.feast(0, 0, 1);
            Texts.feed(book, "t:1>y+a;t:1>x+b??");
            check.due("law", book.law(which / 2, which % 2 == 1, 7), 0);
            check.due("the tape", book.count(12), 0);
            for (int other = 0; other < 4; other++) {
                int due = which == other ? 1 : 0;
                check.due("RULES of " + other, book.rules(other / 2, other % 2 == 1), due);
            }
            book.act(0, 0, 1, 0, true);
            check.due("it is the LAW", book.mark(which / 2, 1, 0, 0, 0), 2);
            check.due("the bytes behind are none of it", book.mark(which / 2, 1, 1, 0, 0), 0);
            Texts.feed(book, "t:1>y+c;t:1>x+d");
            check.due("bytes fed later are none of it", book.mark(which / 2, 1, 2, 0, 0), 0);
            check.due("law of all bytes", book.law(which / 2, which % 2 == 1, 15), 0);
            check.due("the LAW ahead is gone", book.mark(which / 2, 1, 0, 0, 0), 0);
            check.due("from now on this one", book.mark(which / 2, 1, 3, 0, 0), 2);
        }
        anotherLaw();
    }

    /** Whatever LAWS and FAULTS were ahead of it, a LAW is what its bytes say. */
    private void anotherLaw() {
        String[] laws = {"l:!1>x+a", "l:1>x+a,x-a,x+b", "l:!(1&1|1)>x+a", "l:1>x+a",
            "l:xa&1&!1|1>x-a;l:1>x+a", "l:1>x-a", "l:!!1>x+a", "c:1>x+a;l:!1>x+a", "l:1>x+a"};
        int[] due = {0, 0, 0, 2, 2, 0, 2, 0, 2};
        SealBook book = Books.at(0, "", 0);
        book.act(3, 0, NONE, 0, true);
        for (int k = 0; k < laws.length; k++) {
            check.due(laws[k], Texts.law(book, 0, false, laws[k]), 0);
            check.due("MARK a by " + laws[k], book.mark(0, 0, 0, 0, 0), due[k]);
            check.is("a FAULT", Texts.law(book, 0, false, "l:!(1&!(xb|1>x-a") > 1000);
            check.due("MARK a still by " + laws[k], book.mark(0, 0, 0, 0, 0), due[k]);
        }
    }

    private void lawNoRules() {
        check.says(7, "n 0: it has no rules: 0");
        SealBook book = Books.at(0, "t:1>x+a;k:1>x+b", 0, 0);
        book.act(0, 0, 1, 0, true);
        check.due("with the LAW", book.mark(0, 0, 0, 0, 0), 2);
        Texts.feed(book, "t:1>x+c");
        check.due("law of none", book.law(0, false, 0), 0);
        check.due("RULES", book.rules(0, false), 0);
        check.due("without it", book.mark(0, 0, 0, 0, 0), 0);
        check.due("the tape is empty", book.count(12), 0);
        check.due("law of none, the tape empty", book.law(0, false, 0), 0);
        check.due("for a LAW without rules", new SealBook().law(1, true, 0), 0);
    }

    private void lawFault() {
        check.says(7, "a FAULT: 1000 times its number and its place (the LAW stays)");
        SealBook book = Books.at(0, "t:1>x+a", 0, 0);
        book.act(0, 0, 1, 0, true);
        String[] texts = {"?", "t:xa<1234567>x+b", "t:1>x+b,x+b,x+b,x+b,x+b", "t:!!!!!!!!!1>x+b"};
        int[] due = {1000, 2011, 3020, 5010};
        for (int k = 0; k < texts.length; k++) {
            check.due(texts[k], Texts.law(book, 0, false, texts[k]), due[k]);
            check.due("the tape is empty", book.count(12), 0);
            check.due("RULES", book.rules(0, false), 1);
            check.due("by the LAW that stays", book.mark(0, 0, 0, 0, 0), 2);
            check.due("by the one with the FAULT", book.mark(0, 0, 1, 0, 0), 0);
        }
        check.due("a FAULT behind good RULES", Texts.law(book, 0, false, "k:1>x+b;t:1>x+b;t"), 1017);
        check.due("none of them counts", book.rules(0, false), 1);
    }

    private void lawRefused() {
        check.says(7, "NONE: no such SCHOOL, it has not so many (the tape stays).");
        int[] schools = {-1, 2, Integer.MIN_VALUE, Integer.MAX_VALUE};
        for (int school : schools) {
            check.none("SCHOOL " + school, Books::small, book -> book.law(school, false, 8));
            check.none("SCHOOL " + school + ", n 0", Books::small, book -> book.law(school, true, 0));
        }
        int[] many = {-1, 21, 240, 241, Integer.MIN_VALUE, Integer.MAX_VALUE};
        for (int n : many) {
            check.none("n " + n + " of 20", Books::small, book -> book.law(0, false, n));
        }
        check.due("n 20 of 20", Books.small().law(0, false, 20), 0);
        check.none("n 241 of 240", Books::fullTape, book -> book.law(0, false, 241));
        check.none("n 1 of an empty tape", SealBook::new, book -> book.law(0, false, 1));
    }

    private void rules() {
        check.says(8, "RULES of a LAW");
        SealBook book = new SealBook();
        check.due("none", book.rules(1, true), 0);
        Texts.law(book, 1, true, "l:1>x+a");
        check.due("one", book.rules(1, true), 1);
        Texts.law(book, 1, true, "l:1>x+a;" + "t:1>x+a,y+b;".repeat(1) + "l:1>x+a");
        check.due("three", book.rules(1, true), 3);
        Texts.law(book, 1, true, "t:1>x+a;".repeat(23) + "t:1>x+a");
        check.due("24", book.rules(1, true), 24);
        check.due("of another LAW", book.rules(1, false), 0);
        Texts.law(book, 1, true, "k:1>x+a;c:1>x+b");
        check.due("two", book.rules(1, true), 2);
    }

    private void rulesRefused() {
        check.says(8, "NONE: no such SCHOOL.");
        int[] schools = {-1, 2, Integer.MIN_VALUE, Integer.MAX_VALUE};
        for (int school : schools) {
            check.due("rules(" + school + ", false)", Books.small().rules(school, false), NONE);
            check.due("rules(" + school + ", true)", Books.small().rules(school, true), NONE);
        }
    }

    private void twoLawsEach() {
        check.says(8, TERMS, "LAWS: each SCHOOL (0, 1) has a common LAW and a LAW of FEASTS; "
                + "none of them has rules at first.");
        SealBook book = new SealBook();
        for (int which = 0; which < 4; which++) {
            check.due("at first", book.rules(which / 2, which % 2 == 1), 0);
        }
        for (int which = 0; which < 4; which++) {
            Texts.law(book, which / 2, which % 2 == 1, "t:1>x+a;".repeat(which) + "t:1>x+a");
        }
        for (int which = 0; which < 4; which++) {
            check.due("LAW " + which, book.rules(which / 2, which % 2 == 1), which + 1);
        }
    }

    private void textOf240Bytes() {
        check.says(7, TERMS, "A LAW is a TEXT of at most 240 bytes without blanks");
        String longest = Books.longestLaw();
        check.due("its bytes", longest.length(), 240);
        due(longest, 0);
        SealBook book = Books.fullTape();
        check.due("240 bytes", book.law(1, false, 240), 0);
        check.due("RULES", book.rules(1, false), 24);
        check.due("not ended at 239", Books.fullTape().law(0, false, 239), 1239);
        due(longest.substring(0, 239) + " ", 1239);
        due("k:1>x+a", 0);
        String law = "t:!(xa&yb<12)|1>x+a,y-h;c:1>x-a";
        due(law, 0);
        for (int at = 0; at <= law.length(); at++) {
            due(law.substring(0, at) + " " + law.substring(at), 1000 + at);
        }
    }

    private void rulesBetween() {
        check.says(7, TERMS, "RULES with a ; (59) between two.");
        due("t:1>x+a;c:1>x-a", 0);
        due(";t:1>x+a", 1000);
        due("t:1>x+a;", 1008);
        due("t:1>x+a;;c:1>x-a", 1008);
        due("t:1>x+ac:1>x-a", 1007);
        due("t:1>x+a:c:1>x-a", 1007);
        due("t:1>x+a<c:1>x-a", 1007);
        due("t:1>x+a,c:1>x-a", 1008);
        due(";", 1000);
    }

    private void rule() {
        check.says(7, TERMS, "A RULE: one of t k c l (an ACT's KIND), : (58), a CONDITION, > (62),");
        for (int k = 0; k < 4; k++) {
            due("tkcl".charAt(k) + ":1>x+a", 0);
        }
        due("s:1>x+a", 1000);
        due("u:1>x+a", 1000);
        due("j:1>x+a", 1000);
        due("m:1>x+a", 1000);
        due("b:1>x+a", 1000);
        due("d:1>x+a", 1000);
        due("T:1>x+a", 1000);
        due("tk:1>x+a", 1001);
        due("t1>x+a", 1001);
        due("t;1>x+a", 1001);
        due("t::1>x+a", 1002);
        due("t:>x+a", 1002);
        due("t:1x+a", 1003);
        due("t:1=x+a", 1003);
        due("t:1?x+a", 1003);
        due("t:1>>x+a", 1004);
    }

    private void effectsBetween() {
        check.says(7, TERMS, "then one to four EFFECTS with a , (44) between two.");
        due("t:1>", 1004);
        due("t:1>;t:1>x+a", 1004);
        due("t:1>x+a", 0);
        due("t:1>x+a,y-b", 0);
        due("t:1>x+a,y-b,x+c", 0);
        due("t:1>x+a,y-b,x+c,y-d", 0);
        due("t:1>x+a,y-b,x+c,y-d,x+e", 3020);
        due("t:1>,x+a", 1004);
        due("t:1>x+a,,x+a", 1008);
        due("t:1>x+a,", 1008);
        due("t:1>x+ay-b", 1007);
        due("t:1>x+a;y-b", 1008);
        due("t:1>x+a-y-b", 1007);
        due("t:1>x+a,y-b,x+c,y-d;c:1>x+a,y-b,x+c,y-d", 0);
        due("t:1>x+a,y-b,x+c,y-d;".repeat(11) + "t:1>x+a,y-b,x+c,y-d", 0);
        due("t:1>x+a,y-b,x+c,y-d;".repeat(11) + "t:1>x+a,y-b,x+c,y-d,", 1240);
    }

    private void effect() {
        check.says(7, TERMS, "An EFFECT: x or y, + or -, a MARK (a to h).");
        for (int mark = 0; mark < 8; mark++) {
            due("t:1>x+" + MARK.charAt(mark) + ",y-" + MARK.charAt(mark), 0);
            due("t:1>x-" + MARK.charAt(mark) + ",y+" + MARK.charAt(mark), 0);
        }
        due("t:1>w+a", 1004);
        due("t:1>z+a", 1004);
        due("t:1>1+a", 1004);
        due("t:1>a+a", 1004);
        due("t:1>xa", 1005);
        due("t:1>x*a", 1005);
        due("t:1>x.a", 1005);
        due("t:1>x,a", 1005);
        due("t:1>x+`", 1006);
        due("t:1>x+i", 1006);
        due("t:1>x+A", 1006);
        due("t:1>x++a", 1006);
    }

    private void condition() {
        check.says(7, TERMS, "A CONDITION: PARTS with a | between two; a PART: PIECES with an & between two;");
        due("t:1|1>x+a", 0);
        due("t:1&1>x+a", 0);
        due("t:1&1|1&1|1>x+a", 0);
        due("t:|1>x+a", 1002);
        due("t:&1>x+a", 1002);
        due("t:1|>x+a", 1004);
        due("t:1&>x+a", 1004);
        due("t:1||1>x+a", 1004);
        due("t:1&&1>x+a", 1004);
        due("t:1&|1>x+a", 1004);
        due("t:1|&1>x+a", 1004);
        due("t:11>x+a", 1003);
        due("t:xaxa>x+a", 1004);
        due("t:1(1)>x+a", 1003);
        due("t:1!1>x+a", 1003);
        due("t:(1|1)(1)>x+a", 1007);
        due("t:(1|)>x+a", 1005);
    }

    private void piece() {
        check.says(7, TERMS, "a PIECE: ! and a PIECE, or ( a CONDITION ), or 1 (it is so), or x or y and a MARK,");
        due("t:!1>x+a", 0);
        due("t:!!xa>x+a", 0);
        due("t:!(1|ya)>x+a", 0);
        due("t:(((xa)))>x+a", 0);
        due("t:(1&1|!1)&!(1)>x+a", 0);
        due("t:!>x+a", 1003);
        due("t:!&1>x+a", 1003);
        due("t:()>x+a", 1003);
        due("t:(1>x+a", 1004);
        due("t:1)>x+a", 1003);
        due("t:(1))>x+a", 1005);
        due("t:)1(>x+a", 1002);
        due("t:(1;t:1)>x+a", 1004);
        due("t:0>x+a", 1002);
        due("t:2>x+a", 1002);
        due("t:a>x+a", 1002);
        due("t:x>x+a", 1003);
        due("t:y&xa>x+a", 1003);
        due("t:x1>x+a", 1003);
        for (int mark = 0; mark < 8; mark++) {
            due("t:x" + MARK.charAt(mark) + "|y" + MARK.charAt(mark) + ">x+a", 0);
        }
        due("t:x`>x+a", 1003);
        due("t:xi>x+a", 1003);
        due("t:y`>x+a", 1003);
        due("t:yi>x+a", 1003);
        due("t:xA>x+a", 1003);
    }

    private void number() {
        check.says(7, TERMS, "at times then < and a number of one to six digits.");
        due("t:xa<>x+a", 1005);
        due("t:xa<|1>x+a", 1005);
        due("t:xa<1>x+a", 0);
        due("t:yh<12>x+a", 0);
        due("t:xa<123456>x+a", 0);
        due("t:xa<000000>x+a", 0);
        due("t:xa<999999&ya<0>x+a", 0);
        due("t:xa<1234567>x+a", 2011);
        due("t:xa<</>x+a", 1005);
        due("t:xa</>x+a", 1005);
        due("t:xa<:>x+a", 1005);
        due("t:xa<1/>x+a", 1006);
        due("t:xa<1:>x+a", 1006);
        due("t:xa<-1>x+a", 1005);
        due("t:xa<1a>x+a", 1006);
        due("t:xa<1<1>x+a", 1006);
        due("t:1<1>x+a", 1003);
        due("t:(xa)<1>x+a", 1006);
        due("t:x<1>x+a", 1003);
        due("t:xa=1>x+a", 1004);
        due("t:1>x+a<1", 1007);
    }

    private void faultFirst() {
        check.says(7, TERMS, "FAULTS, the first from the left:");
        due("t:xa<1234567>?", 2011);
        due("t:?xa<1234567>", 1002);
        due("t:!!!!!!!!!1>x+a,x+a,x+a,x+a,x+a", 5010);
        due("t:1>x+a,x+a,x+a,x+a,x+a;t:!!!!!!!!!1>x+a", 3020);
        due("t:xa<1234567|!!!!!!!!!1>x+a", 2011);
        due("t:!!!!!!!!!1|xa<1234567>x+a", 5010);
        due("t:" + "1|".repeat(80) + "1>x", 6162);
        due("t:" + "1|".repeat(80) + "?>1", 1162);
        due("t:1>x+a;".repeat(24) + "t:?", 4192);
        due("t:1>x+a;".repeat(23) + "t:?>x+a;t:1>x+a", 1186);
        due("?!", 1000);
    }

    private void faultWhatCannotStand() {
        check.says(7, TERMS, "1 what can't stand there");
        String law = "t:!(xa&yb<12)|1>x+a,y-h;c:xh>x-a";
        String[] able = {
            "tkcl", ":", PIECE, PIECE, PIECE, MARK, "&|)<", PIECE, MARK, "&|)<", DIGIT, DIGIT + "&|)", DIGIT + "&|)",
            "&|>", PIECE, "&|>", "xy", "+-", MARK, ",;", "xy", "+-", MARK, ",;", "tkcl", ":", PIECE, MARK, "&|><",
            "xy", "+-", MARK,
        };
        check.due("the law", answer(law), 0);
        check.due("the length of the law", law.length(), able.length);
        for (int at = 0; at < able.length; at++) {
            for (int one = 0; one < 256; one++) {
                if (able[at].indexOf(one) < 0) {
                    due(law.substring(0, at) + (char) one + law.substring(at + 1), 1000 + at);
                }
            }
        }
    }

    private void faultTheEnd() {
        check.says(7, TERMS, "(the end, too);");
        String law = "t:!(xa&yb<12)|1>x+a,y-h;c:xh>x-a";
        for (int n = 1; n <= law.length(); n++) {
            SealBook book = new SealBook();
            Texts.feed(book, law);
            boolean isWhole = n == 19 || n == 23 || n == 32;
            check.due("the first " + n, book.law(0, false, n), isWhole ? 0 : 1000 + n);
        }
        check.due("at 240", Texts.law(new SealBook(), 0, false, "t:1&1>x+a;".repeat(23) + "t:!1&!1>x+"), 1240);
        due("t:!!!!!!!!", 1010);
        due("t:xa<123456", 1011);
        due("t:1>x+a,x+a,x+a,x+a,", 1020);
    }

    private void faultDigit() {
        check.says(7, TERMS, "2 a seventh digit, at it;");
        due("t:xa<999999>x+a", 0);
        due("t:xa<9999999>x+a", 2011);
        due("t:xa<0000001>x+a", 2011);
        due("t:xa<00000012>x+a", 2011);
        due("t:(xa<1234567", 2012);
        due("t:xa<123456&ya<1234567>x+a", 2021);
        due("t:xa<123456?>x+a", 1011);
    }

    private void faultEffect() {
        check.says(7, TERMS, "3 a fifth EFFECT, at its first sign (likewise);");
        due("t:1>x+a,x+b,x+c,x+d", 0);
        due("t:1>x+a,x+b,x+c,x+d,x+e", 3020);
        due("t:1>x+a,x+b,x+c,x+d,y+e,y+f", 3020);
        due("t:1>x+a,x+b,x+c,x+d,x", 3020);
        due("t:1>x+a,x+b,x+c,x+d,y?", 3020);
        due("t:1>x+a,x+b,x+c,x+d,z", 1020);
        due("t:1>x+a,x+b,x+c,x+d,;", 1020);
        due("t:1>x+a;c:1>x+a,x+b,x+c,x+d,x+e", 3028);
        due("t:1>x+a,x+b;c:1>x+a,x+b,x+c", 0);
    }

    private void faultRule() {
        check.says(7, TERMS, "4 the 25th RULE, at its first sign (if that can stand there);");
        String rules = "t:1>x+a;".repeat(23) + "t:1>x+a";
        due(rules, 0);
        for (int k = 0; k < 4; k++) {
            due(rules + ";" + "tkcl".charAt(k), 4192);
        }
        due(rules + ";t:1>x+a", 4192);
        due(rules + ";t?", 4192);
        due(rules + ";x:1>x+a", 1192);
        due(rules + ";;", 1192);
        due(rules + ";", 1192);
        due(rules + "t", 1191);
    }

    private void faultOpen() {
        check.says(7, TERMS, "5 a ( or ! within eight that are open");
        due("t:((((((((1))))))))>x+a", 0);
        due("t:(((((((((1)))))))))>x+a", 5010);
        due("t:!!!!!!!!1>x+a", 0);
        due("t:!!!!!!!!!1>x+a", 5010);
        due("t:((((((((!1))))))))>x+a", 5010);
        due("t:!!!!!!!!(1)>x+a", 5010);
        due("t:!(!(!(!(1))))>x+a", 0);
        due("t:!(!(!(!(!1))))>x+a", 5010);
        due("t:!(!(!(!((1)))))>x+a", 5010);
        due("t:(1|(1&(1|(1&(1|(1&(1|(1&xa))))))))>x+a", 0);
        due("t:(1|(1&(1|(1&(1|(1&(1|(1&!xa))))))))>x+a", 5026);
        due("t:1>x+a;t:(((((((((1)))))))))>x+a", 5018);
    }

    private void faultOpenTillItEnds() {
        check.says(7, TERMS, "(each ! is open till its PIECE ends), at it;");
        due("t:!!!!!!!!1&!!!!!!!!1|!!!!!!!!1>x+a", 0);
        due("t:!1&!1&!1&!1&!1&!1&!1&!1&!1&!1>x+a", 0);
        due("t:(!1&!1&!1|!1&!1&!1&!1&!1&!1&!1)>x+a", 0);
        due("t:!(1)&!(1)&!(1)&!(1)&!(1)&!(1)>x+a", 0);
        due("t:(!xa&!!!!!!!1)>x+a", 0);
        due("t:(!xa&!!!!!!!!1)>x+a", 5014);
        due("t:!(!1|!!!!!!1)>x+a", 0);
        due("t:!(!1|!!!!!!!1)>x+a", 5013);
        due("t:((((((((1))))))))&((((((((1))))))))>x+a", 0);
        due("t:(((((((1)&(1)))))))&!!!!!!!!1>x+a", 0);
        due("t:!!!!!!!!1>x+a;t:!!!!!!!!1>x+a", 0);
        due("t:!!!!!!!!xa<9&(1)>x+a", 0);
    }

    private void faultSigns() {
        check.says(7, TERMS, "6 the 81st of all signs x, y, 1 in CONDITIONS, at it.");
        due("t:" + "1|".repeat(79) + "1>x+a", 0);
        due("t:" + "1|".repeat(79) + "1>x+a,y-b,x+c,y-d", 0);
        due("t:" + "1|".repeat(80) + "1>x+a", 6162);
        due("t:" + "1&".repeat(80) + "xa>x+a", 6162);
        due("t:" + "1&".repeat(80) + "y?", 6162);
        due("t:" + "1&".repeat(80) + "(1", 6163);
        due("t:" + "xa|".repeat(76) + "xb>x+a", 0);
        due("t:" + "xa|".repeat(39) + "1&".repeat(40) + "1>x+a", 0);
        due("t:" + "ya|".repeat(40) + "1&".repeat(40) + "1>x+a", 6202);
        due("t:1>x+a;k:1>x+a;c:" + "1|".repeat(77) + "1>x+a", 0);
        due("t:1>x+a;k:1>x+a;c:" + "1|".repeat(78) + "1>x+a", 6174);
        due("t:" + "1|".repeat(79) + "1>x+a;c:1>x+a", 6168);
        due("t:" + "1|".repeat(79) + "1>x+a;c:?", 1168);
        SealBook book = new SealBook();
        for (int k = 0; k < 3; k++) {
            check.due("80 in each LAW", Texts.law(book, 0, false, "t:" + "1|".repeat(79) + "1>x+a"), 0);
            check.due("81 in each LAW", Texts.law(book, 0, false, "t:" + "1|".repeat(80) + "1>x+a"), 6162);
        }
        // Read so: a 1 that is a digit of a number is none of these signs.
        due("t:" + "1|".repeat(79) + "xa<111111>x+a", 0);
        due("t:xa<111111|" + "1|".repeat(78) + "1>x+a", 0);
        due("t:xa<111111|" + "1|".repeat(78) + "1|y", 6170);
    }
}
