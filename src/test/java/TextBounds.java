import java.util.ArrayList;
import java.util.Arrays;
import java.util.List;

/** Of the tape and of what texts are (Terms 2; promises 8 to 11). */
final class TextBounds extends Bounds {
    private static final String VALUES = " run swing dear minds missed sat draught here minute";
    private static final String UNIT = "1" + VALUES;
    private static final String CONDITION = UNIT + " not (";
    private static final String BEHIND = "+ - * /";
    private static final String TOKENS = "swings fades jumps run swing dear minds missed sat draught here minute when or and not at person"
            + " sit rise go come cat hush 1 ; + - * / ( ) < = > # swingsx Run 00000 , :";
    private static final String[] GOOD = {"fades 1;", "at 0 person 0 come;", "at 0 hush;", "person 0 minds 1;"};

    TextBounds(Check check, Sentences sentences) {
        super(check, sentences);
    }

    void all() {
        in("Terms");
        empty();
        lawGrammar();
        conditionGrammar();
        sumGrammar();
        lineGrammar();
        kinLines();
        sixteen();
        words();
        numbers();
        signs();
        wrap();
        firstFault();
        parts();
        opened();
        tells();
        held();
        lawWords();
        in("Promise 8: feed");
        feed();
        in("Promise 9: end");
        end();
        in("Promise 10: text");
        text();
        in("Promise 11: fault");
        fault();
    }

    private void dueGood(RockingPorch x, int k, String text, int lines) {
        due("text " + k + " " + text, lines, Check.tell(x, k, text));
        due("no fault of " + text, 0, x.fault(0));
        due("no place of " + text, NONE, x.fault(1));
    }

    private void dueFault(RockingPorch x, int k, String text, int fault, int place) {
        due("text " + k + " " + text, NONE, Check.tell(x, k, text));
        due("fault of " + text, fault, x.fault(0));
        due("place of " + text, place, x.fault(1));
    }

    /** Behind the text all tokens but these can't stand, and the end neither, unless it is told. */
    private void dueNext(int k, String text, String those, boolean end) {
        RockingPorch x = porch();
        List<String> can = Arrays.asList(those.split(" "));
        for (String token : TOKENS.split(" ")) {
            boolean fine = can.contains(token);
            int lines = Check.tell(x, k, text + token);
            int place = x.fault(1);
            if (fine) {
                due(k + " " + text + token + " can stand", true, lines != NONE || place > text.length());
            } else {
                due(k + " " + text + token + " can't stand", NONE, lines);
                due(k + " " + text + token + " fault", 1, x.fault(0));
                due(k + " " + text + token + " place", text.length(), place);
            }
        }
        due(k + " " + text + " and the end", end, Check.tell(x, k, text) != NONE);
        due(k + " " + text + " the end's place", end ? NONE : text.length(), x.fault(1));
        due(k + " " + text + " the end's fault", end ? 0 : 1, x.fault(0));
    }

    private void empty() {
        of("TEXTS (empty at first).");
        RockingPorch x = rocking(30);
        for (int k = 0; k <= 3; k++) {
            due("lines of " + k, 0, x.look(10 + k));
        }
        due("the law", 6, x.of(0, 4));
        due("kin", 0, x.who(0, 6));
        x.minutes(1);
        due("calls and house", 2, x.look(8));
    }

    private void lawGrammar() {
        of("0 THE LAW = {(swings | fades | jumps) E [when B] ;}.");
        dueNext(0, "", "swings fades jumps", true);
        dueNext(0, " \n", "swings fades jumps", true);
        dueNext(0, "swings ", UNIT, false);
        dueNext(0, "fades ", UNIT, false);
        dueNext(0, "jumps ", UNIT, false);
        dueNext(0, "fades 1 ", BEHIND + " when ;", false);
        dueNext(0, "fades 1 ; ", "swings fades jumps", true);
        dueNext(0, "fades 1 when ", CONDITION, false);
        dueNext(0, "fades 1 when 1 = 1 ; ", "swings fades jumps", true);
    }

    private void conditionGrammar() {
        of("B = A {or A}.");
        dueNext(0, "fades 1 when 1 = 1 ", BEHIND + " or and ;", false);
        dueNext(0, "fades 1 when 1 = 1 or ", CONDITION, false);
        dueNext(0, "fades 1 when 1 = 1 or 1 = 1 ", BEHIND + " or and ;", false);
        dueSo("1=2 or 1=2", false);
        dueSo("1=2 or 1=1", true);
        dueSo("1=1 or 1=2", true);
        dueSo("1=2 or 1=2 or 1=1", true);
        of("A = C {and C}.");
        dueNext(0, "fades 1 when 1 = 1 and ", CONDITION, false);
        dueNext(0, "fades 1 when 1 = 1 and 1 = 1 ", BEHIND + " or and ;", false);
        dueSo("1=1 and 1=1", true);
        dueSo("1=1 and 1=2", false);
        dueSo("1=2 and 1=1", false);
        dueSo("1=1 and 1=1 and 1=2", false);
        dueSo("1=1 or 1=2 and 1=2", true);
        dueSo("1=2 and 1=2 or 1=1", true);
        dueSo("1=2 and 1=1 or 1=1 and 1=2", false);
        of("C = E (< | = | >) E | not C | ( B ).");
        dueNext(0, "fades 1 when 1 ", BEHIND + " < = >", false);
        dueNext(0, "fades 1 when 1 < ", UNIT, false);
        dueNext(0, "fades 1 when 1 > run ", BEHIND + " or and ;", false);
        dueNext(0, "fades 1 when not ", CONDITION, false);
        dueNext(0, "fades 1 when ( ", CONDITION, false);
        dueNext(0, "fades 1 when ( 1 = 1 ", BEHIND + " or and )", false);
        dueNext(0, "fades 1 when ( 1 = 1 ) ", "or and ;", false);
        dueNext(0, "fades 1 when ( 1 = 1 and ", CONDITION, false);
        dueNext(0, "fades 1 when ( ( 1 = 1 ) ", "or and )", false);
        String[] so = {"1<2", "1=1", "2>1", "not 1=2", "(1=1)", "not not 1=1", "not (1=1 and 1=2)", "not 1=2 and 1=1", "not 1=1 or 1=1",
            "(1=2 or 1=1) and 1=1", "1<2 and 1=1", "2>1 and 1=1", "1=1 and 1<2 and 2>1"};
        String[] not = {"1<1", "2<1", "1=2", "1>1", "1>2", "not 1=1", "(1=2)", "not not 1=2", "not (1=1 or 1=2)", "not 1=2 and 1=2",
            "(1=1 or 1=1) and 1=2", "not 1<2", "not 2>1", "not 1<2 or not 2>1"};
        for (String c : so) {
            dueSo(c, true);
        }
        for (String c : not) {
            dueSo(c, false);
        }
    }

    private void dueSo(String condition, boolean so) {
        RockingPorch x = porch();
        dueGood(x, 0, "fades 20 when " + condition + "; fades 3;", 2);
        due(condition + " is so", so ? 20 : 3, x.of(0, 4));
    }

    private void dueSum(String sum, int due) {
        RockingPorch x = porch();
        dueGood(x, 0, "jumps " + sum + ";", 1);
        due(sum, due, x.of(0, 5));
    }

    private void sumGrammar() {
        of("E = T {(+ | -) T}.");
        dueNext(0, "fades 1 + ", UNIT, false);
        dueNext(0, "fades 1 - ", UNIT, false);
        dueNext(0, "fades 1 + run - 1 ", BEHIND + " when ;", false);
        dueSum("7", 7);
        dueSum("10 - 3 - 2 + 1", 6);
        dueSum("1 - 2 + 3", 2);
        dueSum("10 - 2 * 3 - 1", 3);
        of("T = U {* U | / NUMBER}.");
        dueNext(0, "fades 1 * ", UNIT, false);
        dueNext(0, "fades 1 / ", "1", false);
        dueNext(0, "fades run / 2 ", BEHIND + " when ;", false);
        dueSum("2 * 3 * 4", 24);
        dueSum("100 / 7 / 2", 7);
        dueSum("7 / 2 * 2", 6);
        dueSum("2 * 7 / 4", 3);
        dueSum("9999 * 7 / 9999 / 1", 7);
        dueSum("1 + 2 * 3", 7);
        of("U = NUMBER | run | swing | dear | minds | missed | sat | draught | here | minute.");
        RockingPorch x = porch("19", "810");
        x.minutes(3);
        for (int i = 0; i < 6; i++) {
            x.act(0, 0, 0);
            x.act(1, 0, 0);
            x.set(2, 0, i < 5 ? 0 : 50);
        }
        law(x, "fades 8;");
        kin(x, "person 1 minds 0; person 2 minds 0;");
        x.set(3, 0, 5);
        x.minutes(4);
        String[] words = VALUES.trim().split(" ");
        int[] due = {1, 18, 8, 2, 4, 6, 5, 3, 7};
        for (int i = 0; i < words.length; i++) {
            dueGood(x, 0, "jumps " + words[i] + ";", 1);
            due(words[i], due[i], x.of(0, 5));
        }
    }

    private void lineGrammar() {
        of("1 CALLS = {at MINUTE person PERSON (sit CHAIR | rise | go | come) ;} (MINUTE 0 .. 999.)");
        dueNext(1, "", "at", true);
        dueNext(1, "at ", "1", false);
        dueNext(1, "at 0 ", "person", false);
        dueNext(1, "at 0 person ", "1", false);
        dueNext(1, "at 0 person 0 ", "sit rise go come", false);
        dueNext(1, "at 0 person 0 sit ", "1", false);
        dueNext(1, "at 0 person 0 sit 0 ", ";", false);
        dueNext(1, "at 0 person 0 rise ", ";", false);
        dueNext(1, "at 0 person 0 go ", ";", false);
        dueNext(1, "at 0 person 0 come ", ";", false);
        dueNext(1, "at 0 person 0 come ; ", "at", true);
        RockingPorch x = porch();
        dueGood(x, 1, "at 0 person 2 sit 1; at 999 person 0 rise; at 0999 person 0 go;", 3);
        dueFault(x, 1, "at 1000 person 0 rise;", 2, 3);
        dueFault(x, 1, "at 9999 person 0 rise;", 2, 3);
        of("2 HOUSE = {at MINUTE (cat CHAIR | draught N | hush) ;} (MINUTE 0 .. 999; N 0 .. 9.)");
        dueNext(2, "", "at", true);
        dueNext(2, "at ", "1", false);
        dueNext(2, "at 0 ", "cat draught hush", false);
        dueNext(2, "at 0 cat ", "1", false);
        dueNext(2, "at 0 draught ", "1", false);
        dueNext(2, "at 0 cat 0 ", ";", false);
        dueNext(2, "at 0 draught 0 ", ";", false);
        dueNext(2, "at 0 hush ", ";", false);
        dueNext(2, "at 0 hush ; ", "at", true);
        dueGood(x, 2, "at 0 cat 1; at 999 hush; at 0 draught 0; at 0 draught 9;", 4);
        dueFault(x, 2, "at 1000 hush;", 2, 3);
        dueFault(x, 2, "at 0 draught 10;", 2, 13);
        dueFault(x, 2, "at 0 draught 9999;", 2, 13);
    }

    private void kinLines() {
        of("3 KIN = {person PERSON minds PERSON ;} (the first one the second; unlike; told twice it is one to mind, its LINES are two.)");
        dueNext(3, "", "person", true);
        dueNext(3, "person ", "1", false);
        dueNext(3, "person 0 ", "minds", false);
        dueNext(3, "person 0 minds ", "1", false);
        dueNext(3, "person 0 minds 1 ", ";", false);
        dueNext(3, "person 0 minds 1 ; ", "person", true);
        RockingPorch x = porch();
        dueGood(x, 3, "person 0 minds 1;", 1);
        due("the first minds the second", 1, x.who(1, 6));
        due("not the second the first", 0, x.who(0, 6));
        due("swings by one who minds", 15, x.of(0, 11));
        dueFault(x, 3, "person 1 minds 1;", 2, 15);
        dueGood(x, 3, "person 0 minds 1; person 0 minds 1;", 2);
        due("lines are two", 2, x.look(13));
        due("one to mind", 1, x.who(1, 6));
        due("swings by one", 15, x.of(0, 11));
        dueGood(x, 3, "person 0 minds 1; person 1 minds 0;", 2);
        due("each the other", 2, x.who(0, 6));
    }

    private void sixteen() {
        of("16 lines of each at most.");
        RockingPorch x = porch();
        for (int k = 0; k <= 3; k++) {
            dueGood(x, k, GOOD[k].repeat(16), 16);
            due("lines of " + k, 16, x.look(10 + k));
            dueFault(x, k, GOOD[k].repeat(17), 3, 16 * GOOD[k].length());
            due("lines of " + k + " still", 16, x.look(10 + k));
        }
        RockingPorch y = porch();
        dueGood(y, 0, "fades 1 when 1=2;".repeat(15) + "fades 7;", 16);
        due("the sixteenth is read", 7, y.of(0, 4));
        dueGood(y, 1, GOOD[1].repeat(15) + "at 0 person 2 sit 1;", 16);
        dueGood(y, 2, GOOD[2].repeat(15) + "at 0 draught 4;", 16);
        dueGood(y, 3, GOOD[3].repeat(15) + "person 2 minds 1;", 16);
        y.minutes(1);
        due("of calls, too", 1, y.who(2, 4));
        due("of the house, too", 4, y.look(5));
        due("of kin, too", 5, y.who(1, 6));
    }

    private void words() {
        of("TOKENS: letters (a .. z, A .. Z) as many as stand together are KEYWORDS (those told here for that text) or none;");
        RockingPorch x = porch();
        String[] none = {"fade", "fadess", "Fades", "FADES", "fadesz", "fadesA", "fadesZ", "xfades", "fadesfades", "fa", "z", "A", "Z"};
        for (String word : none) {
            dueFault(x, 0, word + " 1;", 1, 0);
        }
        String[] beside = {"`", "{", "@", "["};
        for (String sign : beside) {
            dueFault(x, 0, "fades" + sign + "1;", 1, 5);
        }
        dueFault(x, 0, "fadesrun;", 1, 0);
        dueFault(x, 0, "fades runwhen 1=1;", 1, 6);
        String[] others = {"sit", "at", "person", "rise", "go", "come", "cat", "hush"};
        for (String word : others) {
            dueFault(x, 0, "fades " + word + ";", 1, 6);
        }
        dueFault(x, 1, "at 0 person 0 cat;", 1, 14);
        dueFault(x, 1, "swings 1;", 1, 0);
        dueFault(x, 2, "at 0 rise;", 1, 5);
        dueFault(x, 2, "at 0 run;", 1, 5);
        dueFault(x, 3, "person 0 sat 1;", 1, 9);
        dueFault(x, 3, "at 0 minds 1;", 1, 0);
        dueGood(x, 0, "fades1when1=1;", 1);
    }

    private void numbers() {
        of("digits as many as stand together NUMBERS of 1 to 4 digits or none;");
        RockingPorch x = porch();
        dueSum("1", 1);
        dueSum("12", 12);
        dueSum("123", 123);
        dueSum("1000 - 9999 + 9009", 10);
        dueSum("0007", 7);
        dueSum("6789-6000", 789);
        dueSum("45", 45);
        dueFault(x, 0, "fades 12345;", 1, 6);
        dueFault(x, 0, "fades 00001;", 1, 6);
        dueFault(x, 0, "fades 1 2;", 1, 8);
        dueFault(x, 0, "fades 1" + (char) ('0' - 1) + "run;", 1, 8);
        dueFault(x, 0, "fades 1" + (char) ('9' + 1) + ";", 1, 7);
        dueFault(x, 1, "at 00000 person 0 rise;", 1, 3);
        dueFault(x, 1, "at 0 person 00000 rise;", 1, 12);
        dueGood(x, 1, "at 0000 person 0001 sit 0001;", 1);
        dueFault(x, 2, "at 0 draught 00009;", 1, 13);
        dueGood(x, 2, "at 0 draught 0009;", 1);
        dueFault(x, 3, "person 0 minds 00001;", 1, 15);
    }

    private void signs() {
        of("; + - * / ( ) < = > .");
        RockingPorch x = porch();
        for (char sign = 33; sign < 256; sign++) {
            boolean letter = sign >= 'a' && sign <= 'z' || sign >= 'A' && sign <= 'Z';
            boolean digit = sign >= '0' && sign <= '9';
            if (!letter && !digit && sign != ';' && sign != '+' && sign != '-' && sign != '*' && sign != '/') {
                dueFault(porch(), 0, "fades 1 " + sign + "1;", 1, 8);
            }
        }
        for (char sign = 33; sign < 127; sign++) {
            if (sign != '<' && sign != '=' && sign != '>' && "+-*/".indexOf(sign) < 0 && !Character.isLetterOrDigit(sign)) {
                dueFault(porch(), 0, "fades 1 when 1 " + sign + "1;", 1, 15);
            }
        }
        dueGood(x, 0, "fades 1+1-1*1/1 when (1<1)or(1=1)or(1>1);", 1);
        dueFault(x, 0, "fades 1 when 1==1;", 1, 15);
        dueFault(x, 0, "fades 1 when 1<=1;", 1, 15);
        of("Blanks (32, 10) between.");
        dueGood(x, 0, " \n\n fades\n1 \n ; \n", 1);
        dueGood(x, 0, " ", 0);
        dueGood(x, 0, "\n", 0);
        for (char sign = 0; sign < 256; sign++) {
            boolean none = sign < 32 && sign != 10 || sign > 126;
            if (none) {
                dueFault(porch(), 0, "fades" + sign + "1;", 1, 5);
            }
        }
        dueFault(x, 0, "fa des 1;", 1, 0);
        dueFault(x, 0, "fades 1\n2;", 1, 8);
    }

    private void wrap() {
        of("Ints, which wrap; / goes towards 0.");
        int square = 9999 * 9999;
        int[] factors = {21, 22, 42, 43, 64};
        for (int factor : factors) {
            int part = square * factor / 1000000;
            dueSum("9999*9999*" + factor + "/1000/1000 " + (part < 0 ? "+ " + -part : "- " + part) + " + 7", 7);
        }
        int most = square * 21;
        due("below the greatest", true, most > 2000000000 && most + square < 0);
        dueSum("9999*9999*21 + 9999*9999", 0);
        dueSum("0-9999*9999*21 - 9999*9999", 1000);
        dueSo("9999*9999*21 + 9999*9999 < 0", true);
        String[] sums = {"0*1-7/2+100", "1-2*7/2+100", "3*5/2/2+100"};
        int[] due = {97, 94, 103};
        for (int i = 0; i < sums.length; i++) {
            dueSum(sums[i], due[i]);
        }
        int negative = square * 32;
        due("a wrapped one below 0 that isn't even", true, negative < 0 && negative / 1000 != Math.floorDiv(negative, 1000));
        int low = -(negative / 1000);
        String exact = low / 1000 + "*1000+" + low % 1000;
        dueSum("9999*9999*32/1000 + " + exact + " + 5", 5);
    }

    private void firstFault() {
        of("FAULTS, the first by its place, at one place the least:");
        RockingPorch x = porch();
        dueFault(x, 1, "at 1000 person 9 fly;", 2, 3);
        dueFault(x, 1, "at 0 person 9 fly;", 2, 12);
        dueFault(x, 1, "at 0 person 0 fly 9", 1, 14);
        dueFault(x, 1, "at 0 person 0 sit 2 #", 2, 18);
        dueFault(x, 1, "at # person 9 sit 9;", 1, 3);
        dueFault(x, 0, "fades 1/0 #", 2, 8);
        dueFault(x, 0, "fades # 1/0;", 1, 6);
        dueFault(x, 0, "fades 1/0 when ((((((((( 1=1;", 2, 8);
        dueFault(x, 0, "fades 1 when ((((((((( 1/0=1;", 3, 21);
        dueFault(x, 0, "fades 1 when # ((((((((( 1=1;", 1, 13);
        dueFault(x, 0, "fades 1;".repeat(16) + "jumps 1/0;", 3, 128);
        dueFault(x, 0, "fades 1;".repeat(15) + "jumps 1/0; fades 1;", 2, 128);
        for (int k = 0; k <= 3; k++) {
            String many = GOOD[k].repeat(16);
            dueFault(x, k, many + "rise 1;", 1, many.length());
            dueFault(x, k, many + "#", 1, many.length());
        }
        dueFault(x, 0, "fades 1 when ((((((((1(", 1, 22);
        dueFault(x, 0, "fades 1 when ((((((((1=1 not", 1, 25);
        dueFault(x, 0, "fades 1 when ((((((((1=(", 1, 23);
        dueFault(x, 1, "at 10000 person 0 rise;", 1, 3);
        dueFault(x, 0, "fades 1/00000;", 1, 8);
        of("1 what can't stand there (the end: the text's length).");
        dueFault(x, 0, "fades", 1, 5);
        dueFault(x, 0, "fades  \n ", 1, 9);
        dueFault(x, 0, "fades 1", 1, 7);
        dueFault(x, 0, "fades 1 ", 1, 8);
        dueFault(x, 1, "at 0 person 0 rise", 1, 18);
        dueFault(x, 2, "at 0 hush\n", 1, 10);
        dueFault(x, 3, "person 0 minds", 1, 14);
        String full = "fades 1" + " ".repeat(393);
        dueFault(x, 0, full, 1, 400);
        dueFault(x, 0, "7", 1, 0);
        dueFault(x, 0, ";".repeat(400), 1, 0);
        dueFault(x, 0, "fades 1;;", 1, 8);
    }

    private void parts() {
        of("2 (at the NUMBER) a part by 0; one beyond its bounds; a CHAIR, a PERSON that there is not; the same PERSON again (of KIN, behind minds).");
        RockingPorch x = porch();
        dueFault(x, 0, "fades 1/0;", 2, 8);
        dueFault(x, 0, "fades 1 / 0000;", 2, 10);
        dueFault(x, 0, "fades 1 when 1=1/0;", 2, 17);
        dueFault(x, 0, "fades 1*0/2/0;", 2, 12);
        dueGood(x, 0, "fades 0*0+0-0/1;", 1);
        dueFault(x, 1, "at 1000 person 0 go;", 2, 3);
        dueFault(x, 1, "at 0 person 3 go;", 2, 12);
        dueFault(x, 1, "at 0 person 0 sit 2;", 2, 18);
        dueGood(x, 1, "at 999 person 2 sit 1;", 1);
        dueFault(x, 2, "at 1000 hush;", 2, 3);
        dueFault(x, 2, "at 0 cat 2;", 2, 9);
        dueFault(x, 2, "at 0 draught 10;", 2, 13);
        dueGood(x, 2, "at 999 cat 1; at 0 draught 9;", 2);
        dueFault(x, 3, "person 3 minds 0;", 2, 7);
        dueFault(x, 3, "person 0 minds 3;", 2, 15);
        dueFault(x, 3, "person 0 minds 0;", 2, 15);
        dueFault(x, 3, "person 2 minds 0002;", 2, 15);
        dueGood(x, 3, "person 2 minds 0; person 0 minds 2;", 2);
        RockingPorch none = new RockingPorch();
        dueFault(none, 1, "at 0 person 0 go;", 2, 12);
        dueFault(none, 2, "at 0 cat 0;", 2, 9);
        dueFault(none, 3, "person 0 minds 1;", 2, 7);
        RockingPorch most = porch("4444444444", "11111111111111");
        dueGood(most, 1, "at 0 person 13 sit 9;", 1);
        dueFault(most, 1, "at 0 person 14 sit 9;", 2, 12);
        dueFault(most, 1, "at 0 person 13 sit 10;", 2, 19);
        dueGood(most, 2, "at 0 cat 9;", 1);
        dueFault(most, 2, "at 0 cat 10;", 2, 9);
        dueGood(most, 3, "person 13 minds 12;", 1);
        dueFault(most, 3, "person 13 minds 14;", 2, 16);
    }

    private void opened() {
        of("3 (at its KEYWORD) the 17th line of a text; (at it) the 9th ( or not that is open.");
        RockingPorch x = porch();
        String[] keyword = {"jumps", "at", "at", "person"};
        for (int k = 0; k <= 3; k++) {
            String many = GOOD[k].repeat(16);
            dueGood(x, k, many + " \n", 16);
            dueFault(x, k, many + " \n" + keyword[k], 3, many.length() + 2);
            dueFault(x, k, many + keyword[k] + " #", 3, many.length());
        }
        String[] eight = {"((((((((1=1))))))))", "not not not not not not not not 1=1", "not(not(not(not(1=1))))",
            "(not(not(not(not 1=1))))", "((((1=1))))and((((((((1=1))))))))", "not 1=2 and not 1=2 and not 1=2 and not 1=2 and not 1=2 and not 1=2"
                + " and not 1=2 and not 1=2 and not 1=2 and not 1=2", "(1=1)and(1=1)and(1=1)and(1=1)and(1=1)and(1=1)and(1=1)and(1=1)and(1=1)and(1=1)",
            "(((((((not 1=2 and not 1=2)))))))", "1=2 or 1=1 and (".repeat(8) + "1+2*3<4+5*6" + ")".repeat(8)};
        for (String deep : eight) {
            dueGood(x, 0, "fades 20 when " + deep + "; fades 3;", 2);
            due(deep + " is so", 20, x.of(0, 4));
        }
        String[] nine = {"(((((((((1=1)))))))))", "not not not not not not not not not 1=1", "not(not(not(not(not 1=1))))",
            "(not(not(not(not(1=1)))))", "((((1=1))))and(((((((((1=1)))))))))", "((((((((not 1=1))))))))", "not 1=1 and ((((((((1=1 or not 1=1))))))))"};
        int[] place = {8, 32, 16, 16, 22, 8, 27};
        for (int i = 0; i < nine.length; i++) {
            dueFault(x, 0, "fades 20 when " + nine[i] + ";", 3, 14 + place[i]);
        }
    }

    private void tells() {
        of("What THE LAW tells of a CHAIR and a PERSON (swings: who rises from it; else whom it is FOR) for a word:");
        RockingPorch x = porch();
        x.act(0, 0, 0);
        x.act(1, 0, 0);
        law(x, "swings 10*dear+run; fades dear; jumps 100*dear;");
        due("swings: who rises", 14, x.of(0, 11));
        due("fades: whom it is for", 3, x.of(0, 4));
        due("jumps: whom it is for", 300, x.of(0, 5));
        x.act(0, 1, 1);
        x.act(1, 1, 0);
        due("who rose", 19, x.of(1, 1));
        of("E of the first line with that word whose B is so, or that has none");
        law(x, "jumps 1; fades 2 when 1=2; fades 3 when 1=1; fades 4; fades 5; swings 6;");
        due("the first that is so", 3, x.of(0, 4));
        due("of that word", 1, x.of(0, 5));
        due("of that word alone", 6, x.of(0, 10));
        law(x, "fades 2 when 1=2; fades 3; fades 4 when 1=1;");
        due("that has none", 3, x.of(0, 4));
        of("(none: swings: 10 times dear and 5 times minds, fades: 10 less run less draught, jumps: 900 less 5 times swing),");
        law(x, "fades 2 when 1=2; swings 1 when 2=1; jumps 1 when 2<1;");
        kin(x, "person 1 minds 2; person 0 minds 2;");
        x.set(3, 0, 2);
        due("swings", 30, x.of(0, 10));
        due("swings by minds", 10, x.of(0, 12));
        due("fades", 4, x.of(0, 4));
        due("jumps", 900 - 5 * 30, x.of(0, 5));
        law(x, "");
        due("fades without a law", 4, x.of(0, 4));
        due("jumps without a law", 900 - 5 * 30, x.of(0, 5));
    }

    private void held() {
        of("swings held to 0 .. 99, fades to 0 .. 20, jumps to 0 .. 1000:");
        String[] words = {"swings", "fades", "jumps"};
        int[] what = {10, 4, 5};
        int[] most = {99, 20, 1000};
        for (int i = 0; i < words.length; i++) {
            RockingPorch x = porch();
            int[] v = {0, 1, most[i] - 1, most[i], most[i] + 1, 9999};
            for (int e : v) {
                law(x, words[i] + " " + e + ";");
                due(words[i] + " " + e, Math.min(e, most[i]), x.of(0, what[i]));
            }
            law(x, words[i] + " 0-1;");
            due(words[i] + " below 0", 0, x.of(0, what[i]));
            law(x, words[i] + " 0-9999*9999;");
            due(words[i] + " far below 0", 0, x.of(0, what[i]));
            law(x, words[i] + " 9999*9999*21;");
            due(words[i] + " far above", most[i], x.of(0, what[i]));
        }
        RockingPorch y = porch("9", "99");
        kin(y, "person 0 minds 1; ");
        due("swings without a law", 95, y.of(0, 11));
        kin(y, "person 1 minds 0; ");
        y.person(0);
        kin(y, "person 1 minds 0; person 2 minds 0;");
        due("swings above without a law", 99, y.of(0, 10));
        y.set(3, 0, 9);
        due("fades below without a law", 0, y.of(0, 4));
        y.act(0, 0, 0);
        y.act(1, 0, 0);
        due("so far it rocks", 99, y.of(0, 1));
    }

    private void lawWords() {
        of("run, swing: the CHAIR's; dear, missed, sat: the PERSON's (FOR NONE: 0);");
        RockingPorch x = rocking(50);
        law(x, "fades 8;");
        x.minutes(1);
        law(x, "jumps 100*run + swing;");
        due("of chair 0", 442, x.of(0, 5));
        due("of chair 1", 900, x.of(1, 5));
        law(x, "jumps 100*dear + 10*missed + sat + 500;");
        due("for person 0", 811, x.of(0, 5));
        due("for none", 500, x.of(1, 5));
        law(x, "fades 7 when dear=0 and missed=0 and sat=0 and minds=0; fades 3;");
        due("for none all are 0", 7, x.of(1, 4));
        of("minds: how many that are not away mind him (NONE: 0);");
        kin(x, "person 1 minds 0; person 2 minds 0; person 0 minds 1;");
        law(x, "jumps minds; swings minds;");
        due("two", 2, x.of(0, 5));
        due("none for none", 0, x.of(1, 5));
        due("one", 1, x.of(1, 11));
        x.act(0, 2, 1);
        due("one who sits minds, too", 2, x.of(0, 5));
        calls(x, "at 1 person 2 go;");
        x.minutes(1);
        due("one away doesn't", 1, x.of(0, 5));
        of("draught; here: how many are not away; minute.");
        x.set(3, 0, 9);
        law(x, "jumps 100*draught + 10*here + minute;");
        due("draught 9, two here, minute 2", 922, x.of(0, 5));
        x.act(0, 1, 1);
        due("who sits is here", 922, x.of(0, 5));
    }

    private void feed() {
        of("Twenty bytes come behind the TAPE, of each number the highest first: how many it has.");
        RockingPorch x = porch();
        due("twenty", 20, x.feed('f' << 24 | 'a' << 16 | 'd' << 8 | 'e', 's' << 24 | ' ' << 16 | '1' << 8 | '1', 0x20202020, 0x20202020, 0x2020203b));
        due("forty", 40, x.feed('j' << 24 | 'u' << 16 | 'm' << 8 | 'p', 's' << 24 | ' ' << 16 | '2' << 8 | ';', 0x0a0a0a0a, 0x20202020, 0x202020ff));
        due("all but the last", true, x.end(39));
        due("two lines", 2, x.text(0));
        due("fades", 11, x.of(0, 4));
        due("jumps", 2, x.of(0, 5));
        x.feed(0x20202020, 0x2020ff20, -1, -1, -1);
        x.text(0);
        due("a byte 255 at its place", 6, x.fault(1));
        x.feed(LOW, 0, 0, 0, 0);
        x.text(0);
        due("a byte 128 at its place", 0, x.fault(1));
        of("NONE, and nothing comes, if there would be more than 400.");
        for (int i = 1; i <= 20; i++) {
            due("up to 400", 20 * i, x.feed(0x20202020, 0x20202020, 0x20202020, 0x20202020, 0x20202020));
        }
        due("420", NONE, x.feed(0x23232323, 0x23232323, 0x23232323, 0x23232323, 0x23232323));
        due("400 still", true, x.end(400));
        due("not more", false, x.end(401));
        due("381 and 20", true, x.end(381));
        due("401", NONE, x.feed(0x23232323, 0x23232323, 0x23232323, 0x23232323, 0x23232323));
        due("nothing came", false, x.end(382));
        due("380 and 20", true, x.end(380));
        due("400", 400, x.feed(0x20202020, 0x20202020, 0x20202020, 0x20202020, 0x20202020));
        due("all are blanks", 0, x.text(0));
    }

    private void end() {
        of("The TAPE has its first n bytes alone: true;");
        RockingPorch x = porch();
        Check.tape(x, "fades 12; fades 7;#");
        due("all", true, x.end(19));
        due("its first nine", true, x.end(9));
        due("one line", 1, x.text(0));
        due("the first", 12, x.of(0, 4));
        Check.tape(x, "fades 1; jumps");
        x.end(13);
        x.text(0);
        due("a word cut off is none", 9, x.fault(1));
        Check.tape(x, "fades 12345;");
        x.end(10);
        x.text(0);
        due("a number cut off is one", 10, x.fault(1));
        Check.tape(x, "fades 1;");
        due("none", true, x.end(0));
        due("without lines", 0, x.text(0));
        due("none of none", true, x.end(0));
        of("false, changing nothing, if it has not so many, or n is below 0.");
        Check.tape(x, "fades 7;");
        int[] wrong = {9, 10, 400, 401, HIGH, -1, LOW};
        for (int n : wrong) {
            due("end " + n, false, x.end(n));
        }
        due("eight bytes still", 1, x.text(0));
        due("as they were", 7, x.of(0, 4));
    }

    private void text() {
        of("The TAPE, empty then (whatever k, with a FAULT too), is TEXT k: how many lines.");
        RockingPorch x = porch();
        int[] ks = {0, 1, 2, 3, 4, -1, LOW, HIGH};
        for (int k : ks) {
            Check.tape(x, "#");
            due("text " + k, NONE, x.text(k));
            due("empty behind a fault " + k, false, x.end(1));
            Check.tape(x, k >= 0 && k <= 3 ? GOOD[k] : "");
            due("text " + k, k >= 0 && k <= 3 ? 1 : NONE, x.text(k));
            due("empty behind " + k, false, x.end(1));
        }
        for (int k = 0; k <= 3; k++) {
            due("lines of " + k, 1, x.look(10 + k));
            due("a text in its stead", 0, x.text(k));
            due("no lines of " + k, 0, x.look(10 + k));
        }
        RockingPorch y = porch();
        dueGood(y, 0, "fades 1 when not not 1=2;", 1);
        dueGood(y, 0, "jumps 1+2+3;", 1);
        due("nothing is left of the one before", 6, y.of(0, 5));
        String longest = "jumps " + "1+".repeat(196) + "1;";
        due("as long as the tape can be", 400, longest.length());
        for (int i = 0; i < 3; i++) {
            dueGood(y, 0, longest, 1);
            due("read to its end", 197, y.of(0, 5));
        }
        of("NONE: no such one (fault() tells 0), or a FAULT (the TEXT stays as it was; the TAPE is empty in each case).");
        for (int k = 0; k <= 3; k++) {
            Check.tell(x, k, GOOD[k].repeat(3));
        }
        int[] none = {4, 5, -1, LOW, HIGH};
        for (int k : none) {
            Check.tape(x, "fades 5;");
            due("no text " + k, NONE, x.text(k));
            due("no fault of " + k, 0, x.fault(0));
            due("empty", false, x.end(1));
        }
        for (int k = 0; k <= 3; k++) {
            String better = GOOD[k].replace('0', '2').replace("fades 1", "fades 9");
            dueFault(x, k, better.repeat(2) + "#", 1, 2 * better.length());
            due("empty", false, x.end(1));
            due("three lines of " + k, 3, x.look(10 + k));
        }
        due("the law as it was", 1, x.of(0, 4));
        due("kin as it was", 1, x.who(1, 6));
    }

    private void fault() {
        of("Of the latest text() what 0 the FAULT (0 without one), 1 its place (NONE).");
        RockingPorch x = porch();
        due("before any", 0, x.fault(0));
        due("its place", NONE, x.fault(1));
        List<Integer> told = new ArrayList<>();
        String[] texts = {"fades 1/0;", "fades 1;", "fades", "", "fades 1;".repeat(17), " "};
        int[] fault = {2, 0, 1, 0, 3, 0};
        int[] place = {8, NONE, 5, NONE, 128, NONE};
        for (int i = 0; i < texts.length; i++) {
            told.add(Check.tell(x, 0, texts[i]));
            due("fault of " + texts[i], fault[i], x.fault(0));
            due("place of " + texts[i], place[i], x.fault(1));
        }
        due("refused if there is one", true, told.equals(Arrays.asList(NONE, 1, NONE, 0, NONE, 0)));
        Check.tell(x, 1, "at");
        x.feed(0, 0, 0, 0, 0);
        x.end(0);
        due("the latest text's", 1, x.fault(0));
        due("its place", 2, x.fault(1));
        x.text(4);
        due("none of no text", 0, x.fault(0));
        due("nor a place", NONE, x.fault(1));
        of("NONE for another what.");
        Check.tell(x, 1, "at");
        int[] wrong = {2, -1, LOW, HIGH};
        for (int what : wrong) {
            due("what " + what, NONE, x.fault(what));
        }
    }
}
