/** Promise 5: read, its faults and limits. */
public final class ReadTest {
    public static void main(String[] args) {
        accepted();
        faults();
        tooEarly();
        limits();
        nothingChanges();
        Check.end("ReadTest");
    }

    private static void reads(String text, int statements) {
        Check.due("read of '" + text + "'", Check.read(new WatchedPrograms(), text), statements);
    }

    private static void faultAt(String text, int place) {
        reads(text, -10 - place);
    }

    private static void accepted() {
        reads("", 0);
        reads("     ", 0);
        reads("a=0;", 1);
        reads("  a  =  0  ;  ", 1);
        reads("if a{}", 1);
        reads("if a{}else{}", 1);
        reads("loop 0{}", 1);
        reads("loop 8{a=a+1;}b=a;", 3);
        reads("loop3{}out2a;if(a){}", 3);
        reads("if a{b=1;if b{c=1;}else{d=1;}}else{loop 2{e=1;}}f=1;", 8);
        reads("a=b+c-d*e&f;", 1);
        reads("a=!b*!!c+(d)-(e<f)&(a=b);", 1);
        reads("a=(b+1<c*2);", 1);
        reads("out 3(a<b);", 1);
    }

    private static void faults() {
        faultAt("}", 0);
        faultAt("  =", 2);
        faultAt("1=a;", 0);
        faultAt("a a;", 2);
        faultAt("a=;", 2);
        faultAt("a=b c;", 4);
        faultAt("a=b+;", 4);
        faultAt("a=b-;", 4);
        faultAt("a=b*;", 4);
        faultAt("a=b&;", 4);
        faultAt("a=!;", 3);
        faultAt("a=(b<);", 5);
        faultAt("a=(b=);", 5);
        faultAt("a=+b;", 2);
        faultAt("a=-b;", 2);
        faultAt("a=(b;", 4);
        faultAt("a=(b));", 5);
        faultAt("a=();", 3);
        faultAt("a=b<c;", 3);
        faultAt("a=b=c;", 3);
        faultAt("a=(b<c=d);", 6);
        faultAt("a=(b<c)<d;", 7);
        faultAt("out a;", 4);
        faultAt("out 4 a;", 4);
        faultAt("out 0;", 5);
        faultAt("out 0 a}", 7);
        faultAt("if {}", 3);
        faultAt("if a;", 4);
        faultAt("if a{}else b=1;", 11);
        faultAt("if a{}else{}else{}", 12);
        faultAt("loop{}", 4);
        faultAt("loop a{}", 5);
        faultAt("loop 9{}", 5);
        faultAt("loop 3 a=1;", 7);
        faultAt("loop 2{}else{}", 8);
        faultAt("else{}", 0);
        faultAt("a=1;}", 4);
        faultAt("{a=1;}", 0);
        faultAt("a=if;", 2);
        // tokens that are none
        faultAt("g=1;", 0);
        faultAt("ab=1;", 0);
        faultAt("az=1;", 0);
        faultAt("a=bz;", 2);
        // upper-case letters make words, too, though none that is a token
        faultAt("A=1;", 0);
        faultAt("aZ=1;", 0);
        faultAt("a=bA;", 2);
        faultAt("Out 0 a;", 0);
        faultAt("outA 0 a;", 0);
        faultAt("a[=1;", 1);
        faultAt("a@=1;", 1);
        faultAt("a`=1;", 1);
        faultAt("a{=1;", 1);
        faultAt("a=ab;", 2);
        faultAt("outs 0 a;", 0);
        faultAt("iff a{}", 0);
        faultAt("ou 0 a;", 0);
        faultAt("looploop 2{}", 0);
        faultAt("a=4;", 2);
        faultAt("a=10;", 2);
        faultAt("a=19;", 2);
        faultAt("a=1a;", 3);
        faultAt("a=1?;", 3);
        faultAt("a=00;", 2);
        faultAt("a=1 01;", 4);
        faultAt("loop 08{}", 5);
        faultAt("a=1,", 3);
        faultAt("a\t=1;", 1);
        faultAt("a=1;" + (char) 0, 4);
        faultAt("a=1;" + (char) 255, 4);
        faultAt("a>b", 1);
        // the first one counts, whatever comes later
        faultAt("a=;?", 2);
        faultAt("a=1;?=", 4);
    }

    private static void tooEarly() {
        String[] texts = {"a", "a=", "a=b", "a=b+", "a=!", "a=(", "a=(b", "a=(b<", "a=(b<c", "out", "out 1", "out 1 a",
            "if", "if a", "if a{", "if a{b=1;", "if a{}else", "if a{}else{", "loop", "loop 3", "loop 3{", "a=b  "};
        for (String text : texts) faultAt(text, text.length());
    }

    private static void limits() {
        reads(Check.repeat("a=1;", 30), 30);
        faultAt(Check.repeat("a=1;", 30) + " b=1;", 121);
        faultAt("if a{" + Check.repeat("b=1;", 30) + "}", 5 + 29 * 4);
        reads(Check.repeat("loop 1{", 6) + Check.repeat("}", 6), 6);
        faultAt(Check.repeat("loop 1{", 7), 6 * 7 + 6);
        faultAt(Check.repeat("if a{", 6) + "if a{", 34);
        faultAt(Check.repeat("if a{", 5) + "if a{}else{if b{", 5 * 5 + 15);
        reads(Check.repeat("if a{", 5) + "if a{}else{}" + Check.repeat("}", 5), 6);
        reads("a=!!!!!!!!b;", 1);
        faultAt("a=!!!!!!!!(b);", 10);
        faultAt("a=!!!!!!!!!b;", 10);
        reads("a=((((((((b))))))));", 1);
        faultAt("a=(((((((((b)))))))));", 10);
        reads("a=!(!(!(!(b))))+!(!(!(!(b))));", 1);
        faultAt("a=!(!(!(!(b+!c))));", 12);
        reads("a=((((((((b<c))))))))+((((((((b=c))))))));", 1);
        faultAt("if (((((((((a){}", 11);
        reads("a=(b<(((((((c))))))));", 1);
        faultAt("a=(b<((((((((c)))))))));", 12);
        reads("a=(b=!!!!!!!c);", 1);
        faultAt("a=(b=!!!!!!!!c);", 12);
        reads("a=b" + Check.repeat("+1", 23) + ";", 1);
        faultAt("a=b" + Check.repeat("+1", 24) + ";", 3 + 23 * 2 + 1);
        faultAt("a=(b" + Check.repeat("+1", 23) + "<c);", 4 + 46 + 1);
        reads("a=b" + Check.repeat("+1", 23) + ";a=b" + Check.repeat("*c", 23) + ";", 2);
        String whole = Check.repeat("a=1;", 29) + "b=1" + Check.repeat(" ", 180) + ";";
        reads(whole, 30);
    }

    private static void nothingChanges() {
        WatchedPrograms x = Check.with("300000", "b=2;out 1 b;");
        Check.type(x, "a=1;c=");
        Check.due("a fault", x.read(), -16);
        Check.due("the text stays", x.count(2), 6);
        Check.due("the program stays", x.count(0), 2);
        Check.due("its outs stay", x.count(1), 1);
        Check.due("and runs", x.run(0), 8);
        Check.type(x, "3;");
        Check.due("the text goes on", x.read(), 2);
        Check.due("the text is empty then", x.count(2), 0);
        Check.due("the new program runs", x.run(0), 49);
        Check.due("an empty text is a program", x.read(), 0);
        Check.due("which does nothing", x.run(77), 77);
        Check.due("without steps", x.ran(0), 0);
    }
}
