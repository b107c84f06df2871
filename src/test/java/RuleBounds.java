/** Promises 12 to 15: the tape, the rule's text and its faults at their bounds. */
final class RuleBounds {
    private static final int NONE = -1;
    private static final String BLANKS = "feed 538976288 538976288 538976288 538976288 538976288";
    private static final String LINE = "pay 1 when 1=1;";
    private static final String TOKENS =
        "TOKENS: letters as many as stand together are KEYWORDS (pay when and sum slips back month) or none; "
        + "digits as many as stand together NUMBERS of 1 to 6 digits or none; ; + - * / ( ) < = > .";
    private static final String FIRST_FAULT =
        "FAULTS, the first by its place, at one place the least: 1 what can't stand there (the end: the text's length).";

    private RuleBounds() {
    }

    static void all() {
        feedOrder();
        feedRefused();
        end();
        rule();
        ruleStays();
        text();
        sums();
        terms();
        units();
        conditions();
        comparisons();
        words();
        numbers();
        signs();
        blanks();
        theEnd();
        firstByPlace();
        leastAtOnePlace();
        partByZero();
        ninthLine();
        ninthOpen();
        fault();
    }

    private static void feedOrder() {
        Bound b = new Bound(12, "Twenty bytes come behind the TAPE, of each number the highest first: how many it has.");
        int[] bytes = {0xff202020, 0x20ff2020, 0x2020ff20, 0x202020ff};
        for (int place = 0; place < 20; place++) {
            StringBuilder feed = new StringBuilder("feed");
            for (int i = 0; i < 5; i++) {
                feed.append(' ').append(i == place / 4 ? bytes[place % 4] : 0x20202020);
            }
            b.anew().due(feed.toString(), 20).due("rule", NONE).due("fault 1", place);
            b.anew(BLANKS).due(feed.toString(), 40).due("rule", NONE).due("fault 1", 20 + place);
        }
        b.anew("feed 1885436192 824211304 1701716017 1026636576 538976288").due("rule", 1).due("pay 0 0 3", 1);
        b.anew("feed -1 0 0 0 0").due("rule", NONE).due("fault 1", 0);
        b.anew(BLANKS, "end 1").due(BLANKS, 21).due(BLANKS, 41);
    }

    private static void feedRefused() {
        Bound b = new Bound(12, "NONE, and nothing comes, if there would be more than 400.");
        String wrong = "feed -1 -1 -1 -1 -1";
        b.anew("19 " + BLANKS).due(BLANKS, 400).refused(BLANKS, wrong).then("end 399").refused(wrong).then("end 381");
        b.refused(wrong, BLANKS).would("rule", 0).then("end 380").would(BLANKS, 400).due(wrong, 400).refused(wrong);
        b.due("rule", NONE).due("fault 1", 380).due(BLANKS, 20);
        b.anew("18 " + BLANKS, "end 359", BLANKS).due(BLANKS, 399).refused(wrong);
    }

    private static void end() {
        Bound b = new Bound(13, "The TAPE has its first n bytes alone: true; false, changing nothing, "
            + "if it has not so many, or n is below 0.");
        b.outside("end #", 0, 0).would("end 0", 1).anew(BLANKS).outside("end #", 0, 20).inside("end #", 0, 20, 1);
        b.due("end 20", 1).would(BLANKS, 40).due("end 19", 1).outside("end #", 0, 19).due("end 0", 1);
        b.outside("end #", 0, 0).due(BLANKS, 20).anew(Bound.STORE).outside("end #", 0, 15).would("end 15", 1);
        b.anew("20 " + BLANKS).outside("end #", 0, 400).inside("end #", 0, 400, 1);
        String cut = "text " + LINE + "x";
        b.anew(cut).due("end 14", 1).due("rule", NONE).due("fault 1", 14);
        b.anew(cut).due("end 15", 1).due("rule", 1).anew(cut).due("end 16", 1).due("rule", NONE).due("fault 1", 15);
        b.anew(cut).due("end 17", 0).due("end 15", 1).refused("end 16").due(BLANKS, 35).due("rule", 1);
    }

    private static void rule() {
        Bound b = new Bound(14, "The TAPE, empty then, is THE RULE: how many lines.");
        b.due("rule", 0).due("rule", 0).pays(LINE, 1, 1).due(BLANKS, 20).due("rule", 0).due("look 6", 0);
        b.due("pay 0 0 3", 0).pays(LINE.repeat(8), 8, 1).due("rule", 0).due("look 6", 0);
        b.anew(Bound.STORE).due("look 6", 1).due("rule", 1).due("pay 0 0 3", 9).would("end 1", 0).due(BLANKS, 20);
        b.pays(" ".repeat(400), 0, 0).pays(" ".repeat(385) + LINE, 1, 1);
        StringBuilder longest = new StringBuilder("pay 1");
        while (longest.length() < 390) {
            longest.append("+1");
        }
        b.pays(longest.append("when 1=1;").toString(), 1, 194);
        // a rule that was leaves no room filled for the ones behind it
        b.anew();
        for (int i = 0; i < 6; i++) {
            b.then("text " + longest).due("rule", 1).due("pay 0 0 3", 194).then("text pay", "rule").due("pay 0 0 3", 194);
            b.then("text " + LINE.repeat(8)).due("rule", 8).due("pay 0 0 3", 1);
        }
    }

    private static void ruleStays() {
        Bound b = new Bound(14, "NONE: a FAULT (THE RULE stays).");
        b.anew(Bound.STORE).faulty("pay", 1, 3).faulty(LINE + "pay 2 when 1/0=1;", 2, 28).faulty(LINE.repeat(9), 3, 120);
        b.then("text " + LINE + "pay").due("rule", NONE).due("look 6", 1).due("pay 1 0 3", 5).due("pay 1 0 4", 0);
        b.would("end 1", 0).due(BLANKS, 20).due("rule", 0).due("look 6", 0).due("pay 1 0 3", 0).due("pay 1 0 4", NONE);
        b.anew("text " + LINE.repeat(8), "rule").faulty("x", 1, 0).faulty(LINE.repeat(7) + "pay", 1, 108);
        b.anew().faulty("pay", 1, 3).faulty(LINE.repeat(9), 3, 120);
    }

    private static void text() {
        Bound b = new Bound(14, "THE RULE is a TEXT = {pay E when B ;}.");
        b.pays("", 0, 0).pays(LINE, 1, 1).pays("pay 2 when 1=2;" + LINE, 2, 1).pays(LINE.repeat(8), 8, 1);
        b.anew().faulty("pay", 1, 3).faulty("pay 1", 1, 5).faulty("pay 1 when", 1, 10).faulty("pay 1 when 1=1", 1, 14);
        b.faulty(";", 1, 0).faulty(LINE + ";", 1, 15).faulty("1 when 1=1;", 1, 0).faulty("pay when 1=1;", 1, 4);
        b.faulty("pay 1 1=1;", 1, 6).faulty("pay 1 when ;", 1, 11).faulty("when 1=1 pay 1;", 1, 0).faulty("pay 1;", 1, 5);
        b.faulty("pay 1 when 1=1 pay 1 when 1=1;", 1, 15).faulty(LINE + "1", 1, 15).faulty(LINE + "when", 1, 15);
    }

    private static void sums() {
        Bound b = new Bound(14, "E = T {(+ | -) T}.");
        b.pays("pay 7 when 1=1;", 1, 7).pays("pay 7+2 when 1=1;", 1, 9).pays("pay 7-2 when 1=1;", 1, 5);
        b.pays("pay 7-2-1+4-3 when 1=1;", 1, 5).pays("pay 7-2*3 when 1=1;", 1, 1);
        b.anew().faulty("pay +1 when 1=1;", 1, 4).faulty("pay -1 when 1=1;", 1, 4).faulty("pay 1+ when 1=1;", 1, 7);
        b.faulty("pay 1+-2 when 1=1;", 1, 6).faulty("pay 1 2 when 1=1;", 1, 6).faulty("pay 1-", 1, 6);
    }

    private static void terms() {
        Bound b = new Bound(14, "T = U {* U | / NUMBER}.");
        b.pays("pay 7*2 when 1=1;", 1, 14).pays("pay 7/2 when 1=1;", 1, 3).pays("pay 100/7/2*3 when 1=1;", 1, 21);
        b.pays("pay 7*3/2 when 1=1;", 1, 10).pays("pay (1+2)*(3+4) when 1=1;", 1, 21);
        b.anew().faulty("pay *2 when 1=1;", 1, 4).faulty("pay /2 when 1=1;", 1, 4).faulty("pay 2* when 1=1;", 1, 7);
        b.faulty("pay 2/ when 1=1;", 1, 7).faulty("pay 2/sum when 1=1;", 1, 6).faulty("pay 2/(2) when 1=1;", 1, 6);
        b.faulty("pay 2**2 when 1=1;", 1, 6).faulty("pay 2//2 when 1=1;", 1, 6).faulty("pay 2/", 1, 6);
    }

    private static void units() {
        Bound b = new Bound(14, "U = NUMBER | sum | slips | back | month | ( E ).");
        b.pays("pay 5 when 1=1;", 1, 5).pays("pay (5) when 1=1;", 1, 5).pays("pay ((5-1)) when 1=1;", 1, 4);
        String[] sold = {"thing 10 99", "2 slip 1 0 0 0 2 -1 0", "slip 1 0 0 0 3 -1 0", "back 2"};
        b.anew(sold).then("text pay sum when 1=1;", "rule").due("pay 0 0 3", 40).due("pay 1 0 3", 0);
        b.anew(sold).then("text pay slips when 1=1;", "rule").due("pay 0 0 3", 3).due("pay 0 1 3", 0);
        b.anew(sold).then("text pay back when 1=1;", "rule").due("pay 0 0 3", 30).due("pay 0 1 3", 0);
        b.anew(sold).then("text pay month when 1=1;", "rule").inside("pay # 0 3", 0, 7, 0).due("pay 0 12 3", 12);
        b.anew().faulty("pay () when 1=1;", 1, 5).faulty("pay (1 when 1=1;", 1, 7).faulty("pay 1) when 1=1;", 1, 5);
        b.faulty("pay (1", 1, 6).faulty("pay ((1) when 1=1;", 1, 9).faulty("pay pay when 1=1;", 1, 4);
        b.faulty("pay and when 1=1;", 1, 4).faulty("pay sum slips when 1=1;", 1, 8).faulty("pay 1(2) when 1=1;", 1, 5);
        b.faulty("pay (1=1) when 1=1;", 1, 6).faulty("pay ; when 1=1;", 1, 4);
    }

    private static void conditions() {
        Bound b = new Bound(14, "B = C {and C}.");
        b.pays("pay 9 when 1=1;", 1, 9).pays("pay 9 when 1=2;", 1, 0).pays("pay 9 when 1=1 and 2=2;", 1, 9);
        b.pays("pay 9 when 1=2 and 2=2;", 1, 0).pays("pay 9 when 1=1 and 2=1;", 1, 0);
        b.pays("pay 9 when 1=2 and 2=1;", 1, 0).pays("pay 9 when 1=1 and 2=2 and 3=4;", 1, 0);
        b.pays("pay 9 when 1=1 and 2=2 and 3=3;", 1, 9).pays("pay 9 when 1=2 and 2=2 and 3=3;", 1, 0);
        b.pays("pay 9 when 1=1" + "and 1=1".repeat(54) + ";", 1, 9).pays("pay 9 when 1=1" + "and 1=1".repeat(53) + "and 1=2;", 1, 0);
        b.anew().faulty("pay 1 when and 1=1;", 1, 11).faulty("pay 1 when 1=1 and;", 1, 18);
        b.faulty("pay 1 when 1=1 and and 1=1;", 1, 19).faulty("pay 1 when 1=1 1=1;", 1, 15);
        b.faulty("pay 1 when 1=1 and", 1, 18).faulty("pay 1 when 1 and 1=1;", 1, 13);
    }

    private static void comparisons() {
        Bound b = new Bound(14, "C = E (< | = | >) E.");
        String[] signs = {"<", "=", ">"};
        for (int sign = 0; sign < 3; sign++) {
            for (int left = 4; left <= 6; left++) {
                boolean so = Integer.compare(left, 5) == sign - 1;
                b.pays("pay 9 when " + left + signs[sign] + "5;", 1, so ? 9 : 0);
                b.pays("pay 9 when 5-9+4-" + left + signs[sign] + "0-5;", 1, Integer.compare(5, left) == sign - 1 ? 9 : 0);
            }
        }
        b.pays("pay 9 when 1+1*3=(2)*2;", 1, 9).pays("pay 9 when 0-1<0;", 1, 9);
        b.anew().faulty("pay 1 when 1;", 1, 12).faulty("pay 1 when =1;", 1, 11).faulty("pay 1 when 1=;", 1, 13);
        b.faulty("pay 1 when 1=2=3;", 1, 14).faulty("pay 1 when 1<=2;", 1, 13).faulty("pay 1 when 1<>2;", 1, 13);
        b.faulty("pay 1 when (1=1);", 1, 13).faulty("pay 1 when 1", 1, 12).faulty("pay 1 when 1=", 1, 13);
    }

    /** Each keyword as it is, one letter short, one letter more ahead or behind, and in great letters. */
    private static void words() {
        Bound b = new Bound(15, TOKENS);
        String line = "pay sum+slips+back+month when 1=1 and 2=2;";
        b.pays(line, 1, 0).pays("pay(sum)when(1)=1and(2)=2;", 1, 0).pays("pay5when1=1and2=2;pay6when1=1;", 2, 5);
        for (String word : new String[] {"pay", "sum", "slips", "back", "month", "when", "and"}) {
            int place = line.indexOf(word);
            b.anew().faulty(line.replace(word, word.substring(1)), 1, place);
            b.faulty(line.replace(word, word.substring(0, word.length() - 1)), 1, place);
            b.faulty(line.replace(word, "a" + word), 1, place).faulty(line.replace(word, "Z" + word), 1, place);
            for (char letter : new char[] {'a', 'z', 'A', 'Z'}) {
                b.faulty(line.replace(word, word + letter), 1, place);
            }
            b.faulty(line.replace(word, word + word), 1, place).faulty(line.replace(word, word.toUpperCase()), 1, place);
        }
        b.faulty("paysum when 1=1;", 1, 0).faulty("pay sumslips when 1=1;", 1, 4).faulty("pay sumwhen 1=1;", 1, 4);
        // beside the letters stand signs that are none, so the word ends ahead of them
        for (char none : new char[] {'@', '[', '`', '{', '_', '\u00e1'}) {
            b.faulty("pay sum" + none + " when 1=1;", 1, 7);
        }
    }

    private static void numbers() {
        Bound b = new Bound(15, TOKENS);
        b.pays("pay 0 when 1=1;", 1, 0).pays("pay 9 when 1=1;", 1, 9).pays("pay 123456 when 1=1;", 1, 123456);
        b.pays("pay 999999 when 1=1;", 1, 999999).pays("pay 000000 when 1=1;", 1, 0).pays("pay 000009 when 1=1;", 1, 9);
        b.pays("pay 999999/999999 when 1=1;", 1, 1).pays("pay 9 when 123456=0+123456;", 1, 9);
        b.anew().faulty("pay 1234567 when 1=1;", 1, 4).faulty("pay 0000001 when 1=1;", 1, 4);
        b.faulty("pay 0000000 when 1=1;", 1, 4).faulty("pay 1/1000000 when 1=1;", 1, 6);
        b.faulty("pay 1 when 1=1000000;", 1, 13).faulty("pay 1 when 1000000=1;", 1, 11);
        b.faulty("pay " + "1".repeat(396), 1, 4).faulty("pay 123456 7 when 1=1;", 1, 11);
        b.faulty("pay 1:2 when 1=1;", 1, 5).faulty("pay 1.2 when 1=1;", 1, 5).faulty("pay 1,2 when 1=1;", 1, 5);
        b.pays("pay123456when1=1;", 1, 123456).anew().faulty("pay1234567when1=1;", 1, 3).faulty("1", 1, 0);
    }

    private static void signs() {
        Bound b = new Bound(15, TOKENS);
        b.pays("pay(2+3-1)*6/2 when 1<2 and 2=2 and 3>2;", 1, 12).anew();
        for (int c = 0; c < 256; c++) {
            boolean blank = c == 32 || c == 10;
            boolean letter = c >= 'a' && c <= 'z' || c >= 'A' && c <= 'Z';
            boolean digit = c >= '0' && c <= '9';
            if (!blank && "+-*/".indexOf(c) < 0) {
                // a letter or a digit would go on what stands ahead of it, so here it stands alone
                b.faulty("pay 1 " + (char) c + " 2 when 1=1;", 1, 6);
            }
            if (!blank && !letter && !digit && "+-*/".indexOf(c) < 0) {
                b.faulty("pay 1" + (char) c + "2 when 1=1;", 1, 5);
            }
        }
    }

    private static void blanks() {
        Bound b = new Bound(15, "Blanks (32, 10) between.");
        b.pays(" \n " + LINE + "\n\n", 1, 1).pays("\npay\n1\nwhen\n1\n=\n1\n;\n", 1, 1).pays("\n", 0, 0);
        b.pays("  pay   1  when  1  =  1  ;  ", 1, 1).pays("pay1when1=1;", 1, 1).anew();
        for (char none : new char[] {0, 9, 11, 13, 31, 33, 95, 127, 128, 138, 160, 255}) {
            b.faulty("pay 1" + none + "when 1=1;", 1, 5).faulty(none + LINE, 1, 0).faulty(LINE + none, 1, 15);
        }
        b.faulty("p ay 1 when 1=1;", 1, 0).faulty("pay 1\n2 when 1=1;", 1, 6);
    }

    private static void theEnd() {
        Bound b = new Bound(15, FIRST_FAULT);
        b.anew().faulty("pay", 1, 3).faulty("pay ", 1, 4).faulty("pay \n ", 1, 6).faulty(LINE + " pay 1 when 1=1", 1, 30);
        b.faulty(" ".repeat(396) + "pay", 1, 399).faulty(" ".repeat(397) + "pay", 1, 400);
        b.faulty("pay" + " ".repeat(397), 1, 400).faulty(" ".repeat(399) + ";", 1, 399).faulty(";".repeat(400), 1, 0);
        b.faulty("(".repeat(400), 1, 0).faulty("pay" + "(".repeat(397), 3, 11).faulty(" ".repeat(399) + "1", 1, 399);
    }

    private static void firstByPlace() {
        Bound b = new Bound(15, FIRST_FAULT);
        b.anew().faulty("pay x/0 when 1=1;", 1, 4).faulty("pay 1/0 x", 2, 6).faulty("pay 1/0+(((((((((1", 2, 6);
        b.faulty("pay (((((((((1/0", 3, 12).faulty("pay ((((((((1/0)+((1", 2, 14).faulty("pay ((((((((x(1", 1, 12);
        b.faulty("pay (((((((((x", 3, 12).faulty(LINE.repeat(8) + "pay 1/0 x", 3, 120);
        b.faulty(LINE.repeat(7) + "pay 1/0 when 1=1;" + LINE, 2, 111).faulty(LINE.repeat(7) + "pay x when 1=1;" + LINE, 1, 109);
        b.faulty("pay 1/0 when 1/0=1;", 2, 6).faulty("pay 1/0/0 when 1=1;", 2, 6);
    }

    private static void leastAtOnePlace() {
        Bound b = new Bound(15, FIRST_FAULT);
        b.anew().faulty("pay ((((((((1(", 1, 13).faulty("pay ((((((((1/(", 1, 14).faulty("pay 1/0000000 when 1=1;", 1, 6);
        b.faulty(LINE.repeat(7) + "pay 1 when 1=1 pay", 1, 120).faulty(LINE.repeat(8) + "x", 1, 120);
        b.faulty(LINE.repeat(8) + "payy", 1, 120).faulty(LINE.repeat(8) + ";", 1, 120).faulty("pay 1 0 when 1=1;", 1, 6);
    }

    private static void partByZero() {
        Bound b = new Bound(15, "2 (at the NUMBER) a part by 0.");
        b.pays("pay 5/1 when 1=1;", 1, 5).pays("pay 5*0 when 1=1;", 1, 0).pays("pay 0/5 when 1=1;", 1, 0);
        b.pays("pay 20/10 when 1=1;", 1, 2).pays("pay 5/000001 when 1=1;", 1, 5);
        b.anew(Bound.STORE).faulty("pay 5/0 when 1=1;", 2, 6).faulty("pay 5/ \n0 when 1=1;", 2, 8);
        b.faulty("pay 5/000000 when 1=1;", 2, 6).faulty("pay 5/00", 2, 6).faulty("pay 5/2/0 when 1=1;", 2, 8);
        b.faulty("pay 1 when (1*2/00)=1;", 2, 16).faulty("pay 1 when 1=1/0;", 2, 15).faulty("pay 0/0 when 1=1;", 2, 6);
        b.faulty(LINE + "pay (1)/0 when 1=2;", 2, 23);
    }

    private static void ninthLine() {
        Bound b = new Bound(15, "3 (at pay) the 9th line; (at it) the 9th ( that is open.");
        b.pays(LINE.repeat(8), 8, 1).pays(LINE.repeat(8) + " \n ", 8, 1).pays(LINE.repeat(7), 7, 1);
        b.anew(Bound.STORE).faulty(LINE.repeat(9), 3, 120).faulty(LINE.repeat(8) + "pay", 3, 120);
        b.faulty(LINE.repeat(8) + " \n" + LINE, 3, 122).faulty(LINE.repeat(10), 3, 120).faulty(LINE.repeat(26), 3, 120);
    }

    private static void ninthOpen() {
        Bound b = new Bound(15, "3 (at pay) the 9th line; (at it) the 9th ( that is open.");
        String eight = "((((((((3))))))))";
        b.pays("pay " + eight + " when 1=1;", 1, 3).pays("pay " + eight + "*" + eight + " when 1=1;", 1, 9);
        b.pays("pay 1 when " + eight + "=" + eight + " and 2<" + eight + ";", 1, 1);
        b.pays("pay (((((((1+(2)-(3)*(4)))))))) when 1=1;", 1, -9);
        b.pays("pay ((1+((((((2))))))-((((((3))))))))when 1=1;", 1, 0).pays("pay (1)" + "+(1)".repeat(12) + "when 1=1;", 1, 13);
        b.anew(Bound.STORE).faulty("pay (" + eight + ") when 1=1;", 3, 12).faulty("pay (((((((((", 3, 12);
        b.faulty("pay ( ( ( ( ( ( ( ( \n( 1", 3, 21).faulty("pay " + eight + "+(" + eight + ") when 1=1;", 3, 30);
        b.faulty("pay 1 when (" + eight + ")=1;", 3, 19).faulty("pay 1 when 1=(" + eight + ");", 3, 21);
        b.faulty("pay 1 when 1=1 and 1=(" + eight + ");", 3, 29).faulty("pay (((((((1+(2)-((3", 3, 18);
    }

    private static void fault() {
        Bound b = new Bound(15, "Of the latest rule(): what 0 the FAULT (0 without one), 1 its place (NONE).");
        b.due("fault 0", 0).due("fault 1", NONE).then("text x").due("rule", NONE).due("fault 0", 1).due("fault 1", 0);
        b.then("text " + LINE).due("fault 0", 1).due("fault 1", 0).due("rule", 1).due("fault 0", 0).due("fault 1", NONE);
        b.then("text pay 1/0").due("fault 0", 0).due("rule", NONE).due("fault 0", 2).due("fault 1", 6).then("text x");
        b.then("next", "end 0").due("fault 0", 2).due("rule", 0).due("fault 0", 0).due("fault 1", NONE);
        b.then("text " + LINE.repeat(9), "rule").due("fault 0", 3).due("fault 1", 120);
        b = new Bound(15, "NONE for another what.");
        b.outside("fault #", 0, 1).anew(Bound.STORE).outside("fault #", 0, 1).due("fault 0", 1).due("fault 1", 10);
    }
}
