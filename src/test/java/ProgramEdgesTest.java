/** Boundary cases of part 1 of the document, cells and texts and runs: each method has its sentence above it. */
public final class ProgramEdgesTest {
    private static final int BAD = WatchedPrograms.BAD, FULL = WatchedPrograms.FULL;

    public static void main(String[] args) {
        sumsGoRound();
        notOfEachNumber();
        ifIsDoneUnlessZero();
        openAtFirst();
        textOf300Bytes();
        programOf300Bytes();
        onlyByte32IsBlank();
        bytesThatBeginNothing();
        thirtyStatements();
        thirtyFirstOfEachKind();
        statementsInAll();
        numbersOfLevels();
        timesOfLoops();
        numbersInSums();
        sixBraces();
        eightOpenInSum();
        twentyFourOperands();
        wordsAndFigures();
        endsTooEarly();
        firstFaultCounts();
        fourHundredSteps();
        stepsOfIfAndLoop();
        twentyOnTape();
        typeTakesLowestBytes();
        lastOf512Calls();
        nothingIsLeftOfTheOld();
        Check.end("ProgramEdgesTest");
    }

    private static void reads(String text, int want) {
        Check.due("read of '" + text + "'", Check.read(new WatchedPrograms(), text), want);
    }

    private static void faultAt(String text, int place) {
        reads(text, -10 - place);
    }

    private static int ran(String text, int from) {
        return Check.with("", text).run(from);
    }

    /** "CELLS a .. f hold 0 .. 3 (all sums go round at 4)." */
    private static void sumsGoRound() {
        String[] signs = {"a+b", "a-b", "a*b", "a&b", "(a<b)", "(a=b)"};
        for (int k = 0; k < signs.length; k++) {
            WatchedPrograms x = Check.with("", "c=" + signs[k] + ";");
            for (int from = 0; from < 16; from++) {
                int a = from % 4;
                int b = from / 4;
                int[] want = {(a + b) % 4, (a + 4 - b) % 4, a * b % 4, a & b, a < b ? 1 : 0, a == b ? 1 : 0};
                Check.due(signs[k] + " of " + a + " and " + b, x.run(from), from + 16 * want[k]);
            }
        }
        Check.due("round ahead of <", ran("a=(3+1<1);", 0), 1);
        Check.due("round ahead of =", ran("a=(3+2=1);", 0), 1);
        Check.due("round ahead of !", ran("a=!(3+1);", 0), 1);
        Check.due("round ahead of *", ran("a=(3+2)*3;", 0), 3);
        Check.due("round ahead of if", ran("if 3+1{a=1;}else{a=2;}", 0), 2);
        Check.due("below 0 ahead of if", ran("if 0-1{a=1;}else{a=2;}", 0), 1);
        Check.due("below 0 ahead of <", ran("a=(0-1<0);", 0), 0);
        Check.due("from the greatest", ran("a=a+1;b=b+1;c=c+1;d=d+1;e=e+1;f=f+1;", 4095), 0);
        Check.due("from the least", ran("a=a-1;b=b-1;c=c-1;d=d-1;e=e-1;f=f-1;", 0), 4095);
        WatchedPrograms x = Check.with("", "out 0 3+1;out 0 0-1;");
        x.run(0);
        Check.due("what comes out goes round", x.tape(0, 0), 0);
        Check.due("what comes out goes round below 0", x.tape(1, 0), 3);
    }

    /** "! FACTOR (1 of 0, else 0)" */
    private static void notOfEachNumber() {
        for (int a = 0; a < 4; a++) Check.due("! of " + a, ran("b=!a;", a), a + (a == 0 ? 4 : 0));
        for (int a = 0; a < 4; a++) Check.due("!! of " + a, ran("b=!!a;", a), a + (a == 0 ? 0 : 4));
    }

    /** "if: what is not 0." */
    private static void ifIsDoneUnlessZero() {
        for (int a = 0; a < 4; a++) {
            Check.due("if of " + a, ran("if a{b=1;}", a), a + (a == 0 ? 0 : 4));
            Check.due("else of " + a, ran("if a{b=1;}else{b=2;}", a), a + (a == 0 ? 8 : 4));
        }
    }

    /** "Each CELL has a LEVEL (0 at first)", "LEVEL of a CELL (0 .. 5) becomes v (0 .. 3): what it was. BAD." */
    private static void openAtFirst() {
        WatchedPrograms x = new WatchedPrograms();
        for (int cell = 0; cell < 6; cell++) {
            int was = 0;
            for (int v : new int[] {3, 0, 2, 1, 1}) {
                Check.due("level of " + cell, x.level(cell, v), was);
                was = v;
                Check.due("level 4 of " + cell, x.level(cell, 4), BAD);
                Check.due("level -1 of " + cell, x.level(cell, -1), BAD);
            }
        }
        for (int v = 0; v < 4; v++) {
            Check.due("level of cell -1", x.level(-1, v), BAD);
            Check.due("level of cell 6", x.level(6, v), BAD);
        }
        Check.due("all are of level 1", x.count(4), 6);
    }

    /** "a text (300 bytes at most)", "come to THE TEXT: how many it has. BAD; FULL." */
    private static void textOf300Bytes() {
        for (int n = 1; n <= 8; n++) {
            WatchedPrograms x = new WatchedPrograms();
            int length = Check.type(x, Check.repeat(" ", 300 - n));
            Check.due("bytes so far", length, 300 - n);
            if (n < 8) Check.due("to 301 by " + (n + 1), x.type(0x2020202020202020L, n + 1), FULL);
            Check.due("a refused one adds nothing", x.count(2), 300 - n);
            Check.due("to 300 by " + n, x.type(0x2020202020202020L, n), 300);
            for (int more = 1; more <= 8; more++) Check.due("beyond 300", x.type(0, more), FULL);
            Check.due("9 bytes are BAD ahead of FULL", x.type(0, 9), BAD);
            Check.due("0 bytes are BAD ahead of FULL", x.type(0, 0), BAD);
            Check.due("there are 300", x.count(2), 300);
            Check.due("nothing but blanks was typed", x.read(), 0);
            Check.due("read makes room", x.type(' ', 1), 1);
        }
        WatchedPrograms x = new WatchedPrograms();
        Check.type(x, Check.repeat("?", 300));
        Check.due("a full text with a fault", x.read(), -10);
        Check.due("is still full", x.type(' ', 1), FULL);
        Check.due("clear of a full one", x.clear(), 300);
        Check.due("makes room", x.type(' ', 8), 8);
        Check.due("clear of 8", x.clear(), 8);
        Check.due("clear of an empty one", x.clear(), 0);
    }

    /** "-10 less FAULT": from the first byte to behind the 300th. */
    private static void programOf300Bytes() {
        String most = Check.repeat("a=a+1;", 29) + "b=1";
        reads(most + Check.repeat(" ", 299 - most.length()) + ";", 30);
        // as many tokens as bytes
        String dense = Check.repeat("a=b" + Check.repeat("+b", 23) + ";", 6);
        reads(dense, 6);
        faultAt(dense.substring(0, 299), 299);
        faultAt(dense.substring(0, 299) + "+", 300);
        faultAt(dense.substring(0, 299) + "}", 299);
        faultAt(most + Check.repeat(" ", 299 - most.length()) + "?", 299);
        faultAt(most + Check.repeat(" ", 300 - most.length()), 300);
        faultAt("?" + Check.repeat(" ", 299), 0);
        reads(Check.repeat(" ", 300), 0);
        reads(Check.repeat(" ", 296) + "a=1;", 1);
        reads("a=1;" + Check.repeat(" ", 296), 1);
        faultAt(Check.repeat(" ", 299) + "a", 300);
        faultAt(Check.repeat("a", 300), 0);
        faultAt("a=" + Check.repeat("1", 298), 2);
        faultAt("a=" + Check.repeat("(", 298), 10);
    }

    /** "blanks (32) between TOKENS" */
    private static void onlyByte32IsBlank() {
        reads(" a = 1 ; ", 1);
        reads("a=1;", 1);
        reads("  if  ( a  <  1 )  {  }  else  {  }  ", 1);
        reads("loop 2 { out 1 ! a ; }", 2);
        reads("loop2{out1!a;}", 2);
        for (int b = 0; b < 256; b++) {
            boolean letter = b >= 'a' && b <= 'z' || b >= 'A' && b <= 'Z';
            String text = "a" + (char) b + "=1;";
            if (b == ' ') reads(text, 1);
            else faultAt(text, letter ? 0 : b == '=' ? 2 : 1);
        }
    }

    /** "of a byte that begins none .. that TOKEN's", ahead of a statement, in a sum and behind all. */
    private static void bytesThatBeginNothing() {
        for (int b = 0; b < 256; b++) {
            boolean cell = b >= 'a' && b <= 'f';
            String first = (char) b + "=1;";
            if (cell) reads(first, 1);
            else faultAt(first, b == ' ' ? 1 : 0);
            String inSum = "a=" + (char) b + ";";
            if (cell || b >= '0' && b <= '3') reads(inSum, 1);
            else faultAt(inSum, b == ' ' || b == '!' || b == '(' ? 3 : 2);
            String last = "a=1;" + (char) b;
            if (b == ' ') reads(last, 1);
            else faultAt(last, cell ? 5 : 4);
        }
    }

    /** "STATEMENTS, 30 at most in all", "FAULT: .. a 31st STATEMENT" */
    private static void thirtyStatements() {
        for (int n = 0; n <= 30; n++) reads(Check.repeat("a=1;", n), n);
        for (int n = 31; n <= 33; n++) faultAt(Check.repeat("a=1;", n), 120);
        reads(Check.repeat("loop 1{}", 30), 30);
        faultAt(Check.repeat("loop 1{}", 31), 240);
        reads(Check.repeat("if a{}", 30), 30);
        faultAt(Check.repeat("if a{}", 30) + "  if a{}", 182);
        reads(Check.repeat("out 0 a;", 30), 30);
        faultAt(Check.repeat("out 0 a;", 30) + "out 0 a;", 240);
        WatchedPrograms x = Check.with("", Check.repeat("a=1;", 29) + "loop 1{}");
        Check.due("the last of 30", x.statement(29, 3), 3);
        Check.due("behind the last of 30", x.statement(30, 3), BAD);
    }

    private static void thirtyFirstOfEachKind() {
        String thirty = Check.repeat("a=1;", 30);
        for (String more : new String[] {"f=0;", "out 3 a;", "if a{}", "loop 0{}", "f", "out", "if", "loop"}) {
            faultAt(thirty + more, 120);
            faultAt(thirty + "   " + more, 123);
        }
        for (String none : new String[] {"}", "else{}", "?", "1", ";", "g=1;"}) faultAt(thirty + none, 120);
        reads(Check.repeat("a=1;", 29) + "if a{}else{}", 30);
        faultAt(Check.repeat("a=1;", 29) + "if a{b=1;}", 29 * 4 + 5);
        faultAt(Check.repeat("a=1;", 29) + "if a{}else{b=1;}", 29 * 4 + 11);
        faultAt(Check.repeat("a=1;", 29) + "loop 2{b=1;}", 29 * 4 + 7);
    }

    /** "30 at most in all, numbered from 0 by their first TOKENS" */
    private static void statementsInAll() {
        reads("if a{" + Check.repeat("b=1;", 29) + "}", 30);
        faultAt("if a{" + Check.repeat("b=1;", 30) + "}", 5 + 29 * 4);
        reads("if a{" + Check.repeat("b=1;", 14) + "}else{" + Check.repeat("c=1;", 15) + "}", 30);
        faultAt("if a{" + Check.repeat("b=1;", 14) + "}else{" + Check.repeat("c=1;", 16) + "}", 5 + 56 + 6 + 60);
        faultAt("if a{" + Check.repeat("b=1;", 29) + "}c=1;", 5 + 29 * 4 + 1);
        WatchedPrograms x = Check.with("", "loop 1{if a{out 0 1;}else{b=1;}}if b{}out 1 1;");
        int[] kinds = {3, 2, 1, 0, 2, 1};
        for (int i = 0; i < kinds.length; i++) Check.due("kind of " + i, x.statement(i, 3), kinds[i]);
        Check.due("statement behind the last", x.statement(6, 3), BAD);
        Check.due("statement ahead of the first", x.statement(-1, 3), BAD);
    }

    /** "out LEVEL (a NUMBER 0 .. 3)" */
    private static void numbersOfLevels() {
        for (int n = 0; n <= 9; n++) {
            String text = "out " + n + " a;";
            if (n > 3) {
                faultAt(text, 4);
            } else {
                WatchedPrograms x = Check.with("", text);
                x.run(2);
                Check.due("level of " + text, x.tape(0, 1), n);
                Check.due("number of " + text, x.tape(0, 0), 2);
            }
        }
        faultAt("out a;", 4);
        faultAt("out (1) a;", 4);
        faultAt("out 00 a;", 4);
        faultAt("out 10 a;", 4);
    }

    /** "loop NUMBER { STATEMENTS } (0 .. 8 times)" */
    private static void timesOfLoops() {
        for (int n = 0; n <= 8; n++) {
            WatchedPrograms x = Check.with("", "loop " + n + "{a=a+1;b=a;}");
            Check.due("loop " + n, x.run(0), n % 4 * 5);
            Check.due("steps of loop " + n, x.ran(0), 1 + 2 * n);
        }
        faultAt("loop 9{}", 5);
        faultAt("loop 10{}", 5);
        faultAt("loop 00{}", 5);
        faultAt("loop 01{}", 5);
        faultAt("loop a{}", 5);
        faultAt("loop {}", 5);
    }

    /** "a FACTOR: NUMBER 0 .. 3", "a NUMBER that is beyond, too" */
    private static void numbersInSums() {
        for (int n = 0; n <= 9; n++) {
            if (n <= 3) Check.due("number " + n, ran("a=" + n + ";", 0), n);
            else faultAt("a=" + n + ";", 2);
        }
        faultAt("a=1+4;", 4);
        faultAt("out 3 4;", 6);
        faultAt("if 4{}", 3);
        faultAt("a=(1<4);", 5);
        faultAt("a=!4;", 3);
    }

    /** "6 { open at most", "a seventh {" */
    private static void sixBraces() {
        String[] heads = {"loop 1{", "if 1{", "if 0{}else{"};
        for (String head : heads) {
            reads(Check.repeat(head, 6) + "a=1;" + Check.repeat("}", 6), 7);
            Check.due("done within six of " + head, ran(Check.repeat(head, 6) + "a=1;" + Check.repeat("}", 6), 0), 1);
            int place = 6 * head.length() + head.indexOf('{');
            faultAt(Check.repeat(head, 7) + Check.repeat("}", 7), place);
        }
        String five = Check.repeat("if 1{", 5);
        reads(five + "if 1{}else{}if 1{}loop 1{}" + Check.repeat("}", 5), 8);
        faultAt(five + "if 1{}else{if 1{}}", 25 + 11 + 4);
        faultAt(five + "if 1{}else{loop 1 {}}", 25 + 11 + 7);
        reads(Check.repeat("if 1{", 6) + Check.repeat("}", 6) + Check.repeat("loop 1{", 6) + Check.repeat("}", 6), 12);
        faultAt(Check.repeat("if 1{", 6) + "if 1;", 34);
        faultAt(Check.repeat("if 1{", 6) + "if 1", 34);
    }

    /** "8 ( and ! open at most in a SUM", "a ninth open one" */
    private static void eightOpenInSum() {
        for (int signs = 0; signs < 256; signs++) {
            StringBuilder ahead = new StringBuilder();
            StringBuilder behind = new StringBuilder();
            for (int k = 0; k < 8; k++) {
                boolean not = (signs >> k & 1) == 0;
                ahead.append(not ? '!' : '(');
                behind.append(not ? "" : ")");
            }
            reads("a=" + ahead + "b" + behind + ";", 1);
            faultAt("a=" + ahead + "!b" + behind + ";", 10);
            faultAt("a=" + ahead + "(b)" + behind + ";", 10);
        }
        reads("a=!!!!!!!!b+!!!!!!!!b;", 1);
        reads("a=((((((((b))))))))*((((((((c))))))));", 1);
        reads("a=(!!!!!!!b+!!!!!!!b<!!!!!!!b);", 1);
        faultAt("a=(!!!!!!!b+!!!!!!!b<!!!!!!!!b);", 28);
        reads("a=((((((((b)+(b)=(b))))))));", 1);
        faultAt("a=((((((((b=(b)))))))));", 12);
        reads("a=!!!!!!!!b;c=!!!!!!!!b;", 2);
        reads("out 0 !!!!!!!!b;if !!!!!!!!b{}", 2);
        faultAt("out 0 !!!!!!!!!b;", 14);
        faultAt("if (((((((((b))))))))){}", 11);
    }

    /** "24 NUMBERS and CELLS at most in a SUM", "a 25th" */
    private static void twentyFourOperands() {
        for (String sign : new String[] {"+", "-", "*", "&"}) {
            for (String operand : new String[] {"b", "3"}) {
                String most = operand + Check.repeat(sign + operand, 23);
                reads("a=" + most + ";", 1);
                faultAt("a=" + most + sign + "c;", 2 + 48);
                faultAt("a=" + most + sign + "0;", 2 + 48);
                reads("out 3 " + most + ";if " + most + "{}a=" + most + ";loop 8{}", 4);
            }
        }
        String twelve = "b" + Check.repeat("+1", 11);
        reads("a=(" + twelve + "<" + twelve + ");", 1);
        faultAt("a=(" + twelve + "<" + twelve + "+1);", 3 + 23 + 1 + 23 + 1);
        reads("a=(" + twelve + ")-!(" + twelve + ");", 1);
        faultAt("a=(" + twelve + ")-!(" + twelve + "*c);", 3 + 23 + 4 + 23 + 1);
        Check.due("a sum of 24", ran("a=" + "3" + Check.repeat("+3", 23) + ";", 0), 0);
        Check.due("a sum of 23", ran("a=" + "3" + Check.repeat("+3", 22) + ";", 0), 1);
        String deep = Check.repeat("(1+", 8) + "1" + Check.repeat(")", 8) + Check.repeat("+1", 15);
        Check.due("24 of them, 8 deep", ran("a=" + deep + ";", 0), 0);
        faultAt("a=" + deep + "+1;", 2 + deep.length() + 1);
    }

    /** "a word that is none of these, a NUMBER with a 0 ahead or of more than one figure, that TOKEN's" */
    private static void wordsAndFigures() {
        for (String word : new String[] {"g", "z", "ab", "aa", "ou", "outt", "outa", "i", "iff", "els", "elsee", "loo",
            "loops", "looop", "outout", "ifelse", "xout", "oloop"}) {
            faultAt(word + "=1;", 0);
            faultAt("  " + word + " 1 a;", 2);
            faultAt("a=1+" + word + ";", 4);
            faultAt("if a{}" + word + "{}", 6);
        }
        for (String word : new String[] {"out", "if", "else", "loop"}) {
            faultAt("a=" + word + ";", 2);
            faultAt(word + "=1;", word.equals("if") ? 2 : word.equals("else") ? 0 : word.length());
        }
        for (String number : new String[] {"00", "01", "03", "08", "000", "09", "10", "19", "11", "12", "33", "90", "99", "300"}) {
            faultAt("a=" + number + ";", 2);
            faultAt("a=1+ " + number + ";", 5);
            faultAt("out " + number + " a;", 4);
            faultAt("loop " + number + "{}", 5);
            faultAt("a=1 " + number + ";", 4);
            faultAt(number + "=1;", 0);
        }
        faultAt("a=1 2;", 4);
        faultAt("a=1a;", 3);
        faultAt("a1=1;", 1);
    }

    /** "the text's length, if it ends too early" */
    private static void endsTooEarly() {
        String whole = "if(a<b){out 1 !c*2;loop 3{d=(e=f)&1-0;}}else{a=1;}";
        reads(whole, 5);
        int behindIf = whole.indexOf("else");
        for (int n = 1; n < whole.length(); n++) {
            String part = whole.substring(0, n);
            if (n == behindIf) reads(part, 4);
            else if (!isCutWord(whole, n)) faultAt(part, n);
            if (n != behindIf && !isCutWord(whole, n)) faultAt(part + "  ", n + 2);
        }
        reads("", 0);
    }

    /** A part of a word is another word, which is none of these and can't stand there. */
    private static boolean isCutWord(String text, int n) {
        return Character.isLetter(text.charAt(n - 1)) && Character.isLetter(text.charAt(n));
    }

    /** "the place of the first byte of the first TOKEN that can't stand there" */
    private static void firstFaultCounts() {
        faultAt("a=;b=?;", 2);
        faultAt("a=1 ?=", 4);
        faultAt("a=4;a=00;", 2);
        faultAt("a=00;a=4;", 2);
        faultAt("a b ab", 2);
        faultAt("out 0 a", 7);
        faultAt("out 4", 4);
        faultAt("a=!!!!!!!!!4;", 10);
        faultAt(Check.repeat("a=1;", 30) + "b=4;?", 120);
        faultAt("a=b" + Check.repeat("+1", 23) + "+4;", 50);
        faultAt(Check.repeat("if 1{", 6) + "if 4{", 33);
    }

    /** 393 steps and as many more as to come to n; all that is changed is c. */
    private static String steps(int n) {
        return "loop 8{loop 8{" + Check.repeat("c=3;", 5) + "}}loop 7{loop 8{c=2;}}" + Check.repeat("c=1;", n - 393);
    }

    private static void runs(String text, int want, int steps) {
        WatchedPrograms x = Check.with("", text);
        Check.due("run of " + text, x.run(0), want);
        Check.due("steps of " + text, x.ran(0), steps);
    }

    /** "400 STEPS at most: what is beyond is not done any more." */
    private static void fourHundredSteps() {
        runs(steps(399), 16, 399);
        runs(steps(400), 16, 400);
        runs(steps(401), 16, 400);
        runs(steps(398) + "a=1;b=1;", 21, 400);
        runs(steps(399) + "a=1;b=1;", 17, 400);
        runs(steps(400) + "a=1;b=1;", 16, 400);
        runs(steps(398) + "if 1{a=1;}b=1;", 17, 400);
        runs(steps(399) + "if 1{a=1;}b=1;", 16, 400);
        runs(steps(398) + "if 0{a=1;}b=1;", 20, 400);
        runs(steps(399) + "if 0{}else{a=1;}b=1;", 16, 400);
        runs(steps(397) + "loop 8{a=a+1;}b=1;", 18, 400);
        runs(steps(399) + "loop 8{a=a+1;}b=1;", 16, 400);
        runs(steps(399) + "loop 0{a=a+1;}b=1;", 16, 400);
        runs(steps(398) + "loop 0{a=a+1;}b=1;", 20, 400);
        runs(steps(395) + "loop 8{a=a+1;b=a;}", 16 + 2 + 8, 400);
        runs(steps(394) + "loop 8{a=a+1;b=a;}", 16 + 3 + 8, 400);
        runs(Check.repeat("loop 8{", 6) + "a=a+1;" + Check.repeat("}", 6), (400 - 6 - 43 - 5) % 4, 400);
        WatchedPrograms x = Check.with("", steps(399) + "out 1 2;out 2 3;");
        x.run(0);
        Check.due("step 400 comes out, 401 does not", x.ran(1), 1);
        Check.due("with its number", x.tape(0, 0), 2);
        x = Check.with("", steps(400) + "out 1 2;");
        x.run(0);
        Check.due("step 401 does not come out", x.ran(1), 0);
    }

    /** "each costs a STEP as it begins (of an if, a loop: itself, then what is done in it)" */
    private static void stepsOfIfAndLoop() {
        runs("", 0, 0);
        runs("a=0;", 0, 1);
        runs("out 0 0;", 0, 1);
        runs("if 0{}", 0, 1);
        runs("if 0{a=1;}", 0, 1);
        runs("if 1{a=1;}", 1, 2);
        runs("if 0{a=1;}else{a=2;a=3;}", 3, 3);
        runs("loop 0{a=1;}", 0, 1);
        runs("loop 8{}", 0, 1);
        runs("loop 8{loop 8{loop 8{}}}", 0, 73);
        runs("loop 8{if 0{a=1;}}", 0, 9);
    }

    /** "THE TAPE: what came out, in order (20 at most are kept), each with its LEVEL." */
    private static void twentyOnTape() {
        for (int n = 0; n <= 24; n++) {
            String text = Check.repeat("loop 5{a=a+1;out 1 a;}", n / 5) + Check.repeat("a=a+1;out 2 a;", n % 5);
            WatchedPrograms x = Check.with("", text);
            x.run(0);
            int kept = Math.min(n, 20);
            Check.due("came out", x.ran(1), n);
            Check.due("kept of " + n, x.ran(2), kept);
            for (int i = 0; i < kept; i++) {
                Check.due("number " + i + " of " + n, x.tape(i, 0), (i + 1) % 4);
                Check.due("level " + i + " of " + n, x.tape(i, 1), i < n / 5 * 5 ? 1 : 2);
            }
            for (int what = 0; what < 2; what++) {
                Check.due("behind the last of " + n, x.tape(kept, what), BAD);
                Check.due("ahead of the first of " + n, x.tape(-1, what), BAD);
            }
            Check.due("what 2 of the tape", x.tape(0, 2), BAD);
            Check.due("what -1 of the tape", x.tape(0, -1), BAD);
        }
    }

    /** "The lowest n (1 .. 8) bytes of v, the highest of them first" */
    private static void typeTakesLowestBytes() {
        String text = "abcdef=1";
        long v = 0;
        for (int i = 0; i < 8; i++) v = v << 8 | text.charAt(i);
        for (int n = 1; n <= 8; n++) {
            WatchedPrograms x = new WatchedPrograms();
            Check.due("type of " + n, x.type(v, n), n);
            // of '1', '=1', 'f=1', 'ef=1' .. 'abcdef=1' the third alone ends too early
            Check.due("read of the lowest " + n, x.read(), n == 3 ? -13 : -10);
            x.type(';', 1);
            Check.due("and what comes behind", x.read(), n == 3 ? 1 : -10);
        }
        WatchedPrograms x = new WatchedPrograms();
        Check.due("the least of longs", x.type(Long.MIN_VALUE, 8), 8);
        Check.due("its first byte is 128", x.read(), -10);
        x.clear();
        Check.due("minus one, one byte", x.type(-1L, 1), 1);
        Check.due("which is 255", x.read(), -10);
        x.clear();
        Check.due("higher bytes don't matter", x.type(-1L << 32 | 'a' << 24 | '=' << 16 | '1' << 8 | ';', 4), 4);
        Check.due("whatever they are", x.read(), 1);
        for (int n : new int[] {0, -1, 9, 10, 256, 257, Integer.MIN_VALUE, Integer.MAX_VALUE}) {
            Check.due("type of " + n, x.type(v, n), BAD);
        }
        Check.due("adds nothing", x.count(2), 0);
    }

    /** "An object is used for at most 512 calls after it has been made" */
    private static void lastOf512Calls() {
        WatchedPrograms x = new WatchedPrograms();
        long text = 'f' << 24 | '=' << 16 | '1' << 8 | ';';
        for (int k = 0; k < 254; k++) {
            x.type(text, 4);
            Check.due("read number " + k, x.read(), 1);
        }
        Check.due("call 509", x.level(0, 3), 0);
        Check.due("call 510", x.run(3), 1027);
        Check.due("call 511", x.ran(0), 1);
        Check.due("call 512", x.heaps(0, 1, 1023, 1), 4);
    }

    /** "THE TEXT becomes THE PROGRAM, and is empty then: how many STATEMENTS." */
    private static void nothingIsLeftOfTheOld() {
        WatchedPrograms x = new WatchedPrograms();
        x.level(0, 3);
        String most = "out 0 a" + Check.repeat("+a", 23) + ";";
        for (int k = 0; k < 5; k++) {
            Check.due("read of much", Check.read(x, Check.repeat(most, 5)), 5);
            Check.due("the text is empty then", x.count(2), 0);
            Check.due("its outs", x.count(1), 5);
            Check.due("what is left", x.run(1), 1);
            Check.due("what came out", x.ran(1), 5);
            Check.due("its heaps", x.heaps(0, 0, 0, 0), 1);
            Check.due("its leaks", x.flows(0), 5);
            Check.due("read of little", Check.read(x, "out 0 a;b=1;"), 2);
            Check.due("its one out", x.count(1), 1);
            Check.due("what is left of little", x.run(1), 5);
            Check.due("its four heaps", x.heaps(0, 0, 0, 0), 4);
            Check.due("its one leak", x.flows(0), 1);
            Check.due("behind its last", x.statement(2, 0), BAD);
            Check.due("read of nothing", x.read(), 0);
            Check.due("nothing comes out", x.count(1), 0);
            Check.due("nothing leaks", x.flows(1), WatchedPrograms.NONE);
            Check.due("nothing is learnt", x.heaps(0, 0, 0, 0), 1);
        }
    }
}
