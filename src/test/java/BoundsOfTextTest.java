/** Part II: the sentences on texts, tokens, names and faults that name a bound; a sentence a test. */
public final class BoundsOfTextTest {
    private static final String[] WORDS = {"to", "var", "if", "else", "while", "try", "catch", "return", "say", "fail",
        "new", "none", "is", "as", "size"};

    public static void main(String[] args) {
        threeThousandBytes();
        twoBlanks();
        namesOfEight();
        namesBeginSmall();
        capitalsAsManyAsThereAre();
        numbersOfNine();
        numbersWithoutLetters();
        signsAsLongAsCanBe();
        wordsAreNoNames();
        oneToTwelveProcs();
        fourParameters();
        bracketBelongsToTheType();
        rowsOfTheLatterTwo();
        tenOpen();
        tenOpenInOneStatement();
        eightBlocks();
        eightBlocksInOneProc();
        theEndCannotCome();
        whatBeginsNothingCannotCome();
        namesThatMeanNothing();
        procsAreNoValues();
        procsAndNamesAreApart();
        procsAreKnownBehindTheirName();
        procNamesOnce();
        namesOnceWhereKnown();
        parametersAreKnownToTheEnd();
        varsAreKnownBehindTheirEnd();
        varsAreForgottenWithTheirBlock();
        catchNamesInTheirBlock();
        twentyFourNames();
        eightHundredTokens();
        eightHundredAndFirstIsTheLeastFault();
        leastFaultOfOneToken();
        rightSidesGoAhead();
        leftSidesAtTheSign();
        oneTooManyOrTooFew();
        placesThatMayNotStand();
        returnsAsTold();
        Yards.end();
    }

    private static String in(String statements) {
        return "to m(INT i, VEHICLE v, BOX b, BOX[] r): INT { " + statements + " }";
    }

    private static void bad(int fault, String statements) {
        Yards.faulty(fault, in(statements));
    }

    private static void good(String statements) {
        Yards.right(in(statements));
    }

    private static String procs(int n) {
        StringBuilder s = new StringBuilder();
        for (int i = 0; i < n; i++) {
            s.append("to p").append(i).append("() { } ");
        }
        return s.toString();
    }

    private static String vars(int from, int n) {
        StringBuilder s = new StringBuilder();
        for (int i = from; i < from + n; i++) {
            s.append("var INT a").append(i).append(" = 1; ");
        }
        return s.toString();
    }

    private static void threeThousandBytes() {
        Yards.sentence("THE TEXT is at most 3,000 bytes");
        String text = "to m(): INT { return 5;" + " ".repeat(2976) + "}";
        FreightYards x = Yards.fresh("3,000 bytes");
        Yards.due("load", 1, Yards.load(x, text));
        Yards.due("run", 0, x.run(0, 0, 0, 9));
        Yards.due("told(1)", 5, x.told(1));
        Yards.faulty(1, "to m(): INT { return 5;" + " ".repeat(2976) + "~)");
        Yards.faulty(1, "to m(): INT { return 5;" + " ".repeat(2977) + "~");
    }

    private static void twoBlanks() {
        Yards.sentence("blanks (32, 10) between");
        for (int c = 0; c < 256; c++) {
            if (c == ' ' || c == '\n') {
                Yards.right((char) c + "to" + (char) c + "m(){" + (char) c + "}" + (char) c);
            } else {
                FreightYards x = Yards.fresh("byte " + c);
                Yards.load(x, (char) c + " to m(){}");
                Yards.due("fault(0)", 1, x.fault(0));
                Yards.due("fault(1)", 0, x.fault(1));
                Yards.load(x, "to m(){}" + (char) c);
                Yards.due("fault(0)", 1, x.fault(0));
                Yards.due("fault(1)", 8, x.fault(1));
            }
        }
    }

    private static void namesOfEight() {
        Yards.sentence("NAMES (a small letter, then small letters, digits; 8 at most)");
        Yards.right("to abcdefgh() { } to b2345678() { abcdefgh(); }");
        Yards.faulty(1, "to ~abcdefghi() { }");
        Yards.faulty(1, "to ~a23456789() { }");
        Yards.right("to m(INT abcdefgh) { abcdefgh = abcdefgh; }");
        Yards.faulty(1, "to m(INT ~abcdefghi) { }");
        good("var INT abcdefgh = 1; try { } catch (a2345678) { say a2345678; }");
        bad(1, "var INT ~abcdefghi = 1;");
        bad(1, "try { } catch (~abcdefghi) { }");
        bad(2, "say ~abcdefgh;");
        bad(1, "say ~abcdefghi;");
        bad(2, "say v.~abcdefgh;");
        bad(1, "say v.~abcdefghi;");
        bad(2, "~abcdefgh();");
        bad(1, "~abcdefghi();");
        bad(1, "~abcdefghijklmnopqrstuvwxyzabcdefghijklmnopqrstuvwxyz();");
        Yards.right("to abcdefgh() { } to abcdefgi() { } to bbcdefgh() { } to abcdefg() { }");
    }

    private static void namesBeginSmall() {
        Yards.sentence("a small letter, then small letters, digits");
        Yards.right("to z9() { } to a0() { } to az() { } to zaz09() { }");
        Yards.faulty(1, "to ~9z() { }");
        Yards.faulty(1, "to ~Az() { }");
        Yards.faulty(1, "to a~_z() { }");
        Yards.faulty(1, "to a~`() { }");
        Yards.faulty(1, "to a~" + (char) 123 + "() { }");
        Yards.faulty(1, "to a~" + (char) 225 + "() { }");
        Yards.faulty(1, "to a~Z() { }");
        Yards.faulty(1, "to a~@() { }");
        Yards.faulty(1, "to a~/() { }");
    }

    private static void capitalsAsManyAsThereAre() {
        Yards.sentence("KINDS, ABILITIES and INT as they are written above (as many capitals as there are)");
        Yards.right("to m(BOXb,INTi,VANv,HOLDS[]h){}");
        Yards.faulty(1, "to m(~INTBOX b) { }");
        Yards.faulty(1, "to m(~BOXX b) { }");
        Yards.faulty(1, "to m(~BO b) { }");
        Yards.faulty(1, "to m(~B b) { }");
        Yards.faulty(1, "to m(~VEHICLEVEHICLE b) { }");
        Yards.faulty(1, "to m(~ABILITY b) { }");
        Yards.faulty(1, "to m(~KIND b) { }");
        Yards.faulty(1, "to m(~Box b) { }");
        Yards.faulty(1, "to m(BOX~1) { }");
        bad(1, "say new BOX~2[1];");
        good("say v is BOX+1;");
    }

    private static void numbersOfNine() {
        Yards.sentence("NUMBERS (1 to 9 digits");
        Yards.due("given", 999999999, Yards.given("to m(): INT { return 999999999; }", 0, 0));
        Yards.due("given", -999999999, Yards.given("to m(): INT { return -999999999; }", 0, 0));
        Yards.due("given", 7, Yards.given("to m(): INT { return 000000007; }", 0, 0));
        Yards.due("given", 0, Yards.given("to m(): INT { return 0; }", 0, 0));
        Yards.due("given", 0, Yards.given("to m(): INT { return - 0; }", 0, 0));
        bad(1, "say ~1000000000;");
        bad(1, "say ~0000000007;");
        bad(1, "say -~1000000000;");
        bad(1, "say 1 + ~12345678901234567890123;");
    }

    private static void numbersWithoutLetters() {
        Yards.sentence("no letter behind)");
        bad(1, "say ~1a;");
        bad(1, "say ~1z;");
        bad(1, "say ~1A;");
        bad(1, "say ~1Z;");
        bad(1, "say ~999999999a;");
        bad(1, "say v is BOX + ~1is;");
        good("say 1+1;");
        bad(1, "say 1~_;");
        bad(1, "say 1 ~a;");
        bad(1, "say 1~" + (char) 233 + ";");
    }

    private static void signsAsLongAsCanBe() {
        Yards.sentence("TOKENS, each as long as can be");
        bad(1, "i ~== 1;");
        good("i= 1; say i== i; say i!= i; say i==-1; say i!=-1; say i<-1;");
        bad(1, "say i ==~= i;");
        bad(1, "say i ==~== i;");
        bad(1, "say i ~=!= i;");
        bad(1, "say i ~! i;");
        bad(1, "say i !=~= i;");
        bad(1, "say i~!");
        good("var INT tox = 1; var INT newb = 2; var INT isnt = 3; say tox+newb+isnt;");
        good("say newBOX();say newVAN[3];if(i){}else{}");
        bad(1, "say v ~isx;");
    }

    private static void wordsAreNoNames() {
        Yards.sentence("WORDS, which are no NAMES");
        for (String word : WORDS) {
            Yards.faulty(1, "to ~" + word + "() { }");
            Yards.faulty(1, "to m(INT ~" + word + ") { }");
            bad(1, "var INT ~" + word + " = 1;");
            bad(1, "try { } catch (~" + word + ") { }");
            if (!word.equals("size")) {
                bad(1, "say v.~" + word + ";");
            }
            if (!word.equals("none") && !word.equals("new")) {
                bad(1, "say ~" + word + ";");
            }
            String name = word + "0";
            Yards.right("to " + name + "(INT " + name + ") { say " + name + "; " + name + "(1); }");
        }
    }

    private static void oneToTwelveProcs() {
        Yards.sentence("TEXT: PROCS, 1 to 12");
        Yards.faulty(1, "~");
        Yards.faulty(1, "   ~");
        Yards.due("load", 1, Yards.load(Yards.fresh("one"), procs(1)));
        Yards.due("load", 12, Yards.load(Yards.fresh("twelve"), procs(12)));
        Yards.sentence("5 TOO MUCH: the 13th PROC (its NAME)");
        Yards.faulty(5, procs(12) + "to ~q() { }");
        Yards.faulty(5, procs(12) + "to ~q");
        Yards.faulty(1, procs(12) + "to ~");
        Yards.faulty(1, procs(12) + "~q");
    }

    private static void fourParameters() {
        Yards.sentence("PROC: .. 4 parameters at most; 5 TOO MUCH: the 5th parameter (its NAME)");
        Yards.right("to m() { }");
        Yards.right("to m(INT a) { }");
        Yards.right("to m(INT a, BOX b, BOX[] c, HOLDS d) { m(1, none, none, none); }");
        Yards.faulty(5, "to m(INT a, BOX b, BOX[] c, HOLDS d, INT ~e) { }");
        Yards.faulty(5, "to m(INT a, BOX b, BOX[] c, HOLDS d, INT ~e");
        Yards.faulty(1, "to m(INT a, BOX b, BOX[] c, HOLDS d, ~e) { }");
        Yards.faulty(1, "to m(INT a, BOX b, BOX[] c, HOLDS d,~) { }");
        Yards.right("to m(INT a, INT b, INT c, INT d) { } to n(INT a, INT b, INT c, INT d) { }");
    }

    private static void bracketBelongsToTheType() {
        Yards.sentence("a ROW (a [ behind one always belongs to it)");
        bad(1, "say v as BOX[~0];");
        bad(1, "say r as BOX[~0];");
        bad(1, "say v is BOX[~1];");
        bad(1, "say b as HOLDS[~i];");
        bad(4, "say v as BOX[~];");
        good("say r as BOX[][0]; say (r)[0]; say r[0] as VEHICLE; say (r as WAGON[])[0]; r as WAGON[][0] = none;");
        bad(1, "var BOX[~1] x = none;");
        bad(1, "var BOX[]~[] x = none;");
        Yards.faulty(1, "to m(BOX[~x] a) { }");
        Yards.faulty(1, "to m(): BOX[~1] { }");
    }

    private static void rowsOfTheLatterTwo() {
        Yards.sentence("TYPE: INT, KIND, ABILITY, or one of the latter two with [ ] behind it");
        Yards.faulty(1, "to m(INT~[] a) { }");
        Yards.faulty(1, "to m(): INT~[] { }");
        bad(1, "var INT~[] x = none;");
        bad(1, "say new ~INT[1];");
        bad(1, "say new ~INT();");
        bad(1, "say new HOLDS~();");
        bad(4, "say v as ~INT[];");
    }

    // ---- how many ( and [ are open ----

    private static final String[] OPENERS = {"(", "m(", "r[", "new BOX["};
    private static final String[] CLOSERS = {")", ", none, none, none)", "].load", "].size"};
    /** Statements with # where an E stands, and how many are open there. */
    private static final String[] STATEMENTS = {"var INT x = #;", "i = #;", "v.tag = #;", "return #;", "say #;", "fail #;",
        "r[#] = b;", "r[0] = r[#];", "r[#].load = 1;", "m(#, none, none, none);", "if (#) { }", "while (#) { }",
        "m(1, none, none, new BOX[#]);", "now(); lay(#, r);", "(r)[#] = none;"};
    private static final int[] OPEN = {0, 0, 0, 0, 0, 0, 1, 1, 1, 1, 1, 1, 2, 1, 1};

    private static String nested(int opener, int n, String inside) {
        return OPENERS[opener].repeat(n) + inside + CLOSERS[opener].repeat(n);
    }

    private static void tenOpen() {
        Yards.sentence("the 11th ( or [ that would be open in a STATEMENT (those of FIRST, CALLS, [ E ], new, and of if, "
            + "while)");
        for (int s = 0; s < STATEMENTS.length; s++) {
            for (int o = 0; o < OPENERS.length; o++) {
                int free = 10 - OPEN[s];
                good(STATEMENTS[s].replace("#", nested(o, free, "1")));
                for (int last = 0; last < OPENERS.length; last++) {
                    String opener = OPENERS[last];
                    String marked = opener.substring(0, opener.length() - 1) + "~" + opener.charAt(opener.length() - 1);
                    bad(1, STATEMENTS[s].replace("#", nested(o, free, marked + "1" + CLOSERS[last])));
                    good(STATEMENTS[s].replace("#", nested(o, free - 1, opener + "1" + CLOSERS[last])));
                }
                bad(1, STATEMENTS[s].replace("#", nested(o, free, "now~()")));
                good(STATEMENTS[s].replace("#", nested(o, free - 1, "now()")));
                bad(1, STATEMENTS[s].replace("#", nested(o, free, "new BOX~().tag")));
                good(STATEMENTS[s].replace("#", nested(o, free - 1, "new BOX().tag")));
            }
        }
    }

    private static void tenOpenInOneStatement() {
        Yards.sentence("that would be open in a STATEMENT");
        String ten = nested(0, 10, "1");
        good("say " + ten + " + " + ten + " * " + ten + " < " + ten + "; say " + ten + ";");
        good("if (" + nested(0, 9, "1") + ") { say " + ten + "; while (" + nested(0, 9, "1") + ") { say " + ten + "; } } "
            + "else { say " + ten + "; }");
        good("say m(" + nested(0, 9, "1") + ", " + nested(0, 9, "none") + ", " + nested(0, 9, "none") + ", none);");
        bad(1, "say m(" + nested(0, 9, "1") + ", " + nested(0, 9, "~(none)") + ", none, none);");
        good("r[" + nested(0, 9, "1") + "] = r[" + nested(0, 9, "1") + "];");
        bad(1, "r[" + nested(0, 9, "1") + "] = r[" + nested(0, 9, "~(1)") + "];");
        good("try { say " + ten + "; } catch (e) { say " + ten + "; }");
        good("say " + nested(0, 10, "r as WAGON[] as BOX[]") + ";");
    }

    private static String blocks(String opener, String closer, int n) {
        StringBuilder s = new StringBuilder();
        for (int i = 0; i < n; i++) {
            s.append(opener.replace("#", String.valueOf(i)));
        }
        return s + closer.repeat(n);
    }

    private static void eightBlocks() {
        Yards.sentence("the 9th { that would be open in a PROC (its own counted)");
        String[] openers = {"if (1) {", "if (1) { } else {", "while (1) {", "try {", "try { } catch (e#) {"};
        String[] closers = {"}", "}", "}", "} catch (e) { }", "}"};
        for (int o = 0; o < openers.length; o++) {
            good(blocks(openers[o], closers[o], 7));
            for (String ninth : new String[] {"if (1) ~{ }", "while (1) ~{ }", "try ~{ } catch (f) { }"}) {
                String seven = blocks(openers[o], closers[o], 7);
                int middle = blocks(openers[o], "", 7).length();
                bad(1, seven.substring(0, middle) + ninth + seven.substring(middle));
            }
        }
    }

    private static void eightBlocksInOneProc() {
        Yards.sentence("that would be open in a PROC");
        String seven = blocks("if (1) {", "}", 7);
        good(seven + seven + seven);
        Yards.right(in(seven) + " to n() { " + seven + " }");
        bad(1, seven + blocks("if (1) {", "", 7) + "if (1) ~{" + "}".repeat(8));
    }

    // ---- what can't come ----

    private static final String ALL_SORTS = "to f ( INT a , BOX [ ] b ) : HOLDS [ ] { return b ; } "
        + "to m ( VEHICLE v ) : INT { var INT i = - 1 + 2 * 3 - i0 ( ) ; v . tag = 1 ; "
        + "var BOX [ ] r = new BOX [ 2 ] ; r [ 0 ] = new BOX ( ) ; if ( i < 3 ) { say r . size ; } else { f ( i , r ) ; } "
        + "while ( v is BOX ) { fail 1 ; } try { v . behind = none ; } catch ( e ) { return e ; } "
        + "say v as BOX . load ; say r == none ; say ( i != 2 ) ; return 1 ; }";

    private static boolean isCallName(String[] tokens, int i) {
        return i > 0 && i + 1 < tokens.length && tokens[i + 1].equals("(") && tokens[i].matches("f|i0")
            && !tokens[i - 1].equals("to");
    }

    /** The text up to token i, and the place where a fault is due if what stands behind is wrong. */
    private static void cutBehindEach(String wrong) {
        String text = "to i0 ( ) : INT { } " + ALL_SORTS;
        Yards.right(text);
        String[] tokens = text.split(" ");
        StringBuilder up = new StringBuilder();
        int braces = 0;
        boolean hasProc = false;
        for (int i = 0; i < tokens.length; i++) {
            // where a proc has ended the text may end, too; and to is right where one may begin
            boolean isWhole = braces == 0 && hasProc && tokens[i].equals("to") || i == 0 && wrong.equals("to");
            if (!isWhole) {
                boolean afterCall = i > 0 && isCallName(tokens, i - 1);
                String head = up.toString();
                if (afterCall) {
                    int name = head.lastIndexOf(tokens[i - 1]);
                    Yards.faulty(2, head.substring(0, name) + "~" + head.substring(name) + wrong);
                } else {
                    Yards.faulty(1, head + "~" + wrong);
                }
            }
            up.append(tokens[i]).append(' ');
            braces += tokens[i].equals("{") ? 1 : tokens[i].equals("}") ? -1 : 0;
            hasProc |= tokens[i].equals("}");
        }
    }

    private static void theEndCannotCome() {
        Yards.sentence("1 FORM: a token that can't come there (the end, too)");
        cutBehindEach("");
        Yards.sentence("its place .. (the end: n)");
        FreightYards x = Yards.fresh("blanks ahead of the end");
        Yards.feed(x, "to m() {             ");
        Yards.due("load", 0, x.load(13));
        Yards.due("fault(0)", 1, x.fault(0));
        Yards.due("fault(1)", 13, x.fault(1));
    }

    private static void whatBeginsNothingCannotCome() {
        Yards.sentence("1 FORM: .. or what begins none, or is too long");
        cutBehindEach("$");
        cutBehindEach("abcdefghi");
        cutBehindEach("1234567890");
        cutBehindEach("1x");
        cutBehindEach("KIND");
        cutBehindEach("!");
        Yards.sentence("1 FORM: a token that can't come there");
        cutBehindEach("to");
    }

    // ---- names ----

    private static void namesThatMeanNothing() {
        Yards.sentence("2 a NAME (or FIELD) that means nothing there");
        bad(2, "say ~x;");
        bad(2, "~x = 1;");
        bad(2, "~x.tag = 1;");
        bad(2, "say 1 + ~x;");
        bad(2, "~x();");
        bad(2, "say ~x(1);");
        bad(2, "say v.~speed;");
        bad(2, "v.~speed = 1;");
        bad(2, "say v.~i;");
        bad(2, "say ~tag;");
        bad(2, "say v.~m;");
    }

    private static void procsAreNoValues() {
        Yards.sentence("a PROC's NAME as a value, or another one's as a CALL");
        bad(2, "say ~m;");
        bad(2, "~m = 1;");
        bad(2, "say ~m + 1;");
        for (String five : new String[] {"track", "lay", "hump", "send", "now"}) {
            bad(2, "say ~" + five + ";");
        }
        bad(2, "say ~i();");
        bad(2, "say ~v(1);");
        bad(2, "~r(1);");
    }

    private static void procsAndNamesAreApart() {
        Yards.sentence("(a NAME with ( behind it is a PROC's, else it is no PROC's: one may be both)");
        Yards.due("given", 6, Yards.given("to a(INT a): INT { if (a == 0) { return 5; } a = a - 1; return a(a) + a; }",
            2, 0));
        Yards.due("given", 7, Yards.given("to m(INT now): INT { var INT m = 4; var INT track = 0; "
            + "if (track(track) == none) { return now() + m + now; } return 0; }", 3, 0));
        good("var INT m = 1; m = m + m(m, v, b, r);");
        bad(2, "say (~m)(1);");
    }

    private static void procsAreKnownBehindTheirName() {
        Yards.sentence("A PROC is known from behind its NAME on, in itself, too");
        Yards.right("to a() { a(); } to b() { a(); b(); }");
        Yards.faulty(2, "to a() { ~b(); } to b() { }");
        Yards.faulty(3, "to a() { } to b() { } to ~a() { }");
    }

    private static void procNamesOnce() {
        Yards.sentence("3 a NAME that is there already (a PROC: also the five)");
        Yards.faulty(3, "to a() { } to ~a() { }");
        for (String five : new String[] {"track", "lay", "hump", "send", "now"}) {
            Yards.faulty(3, "to ~" + five + "() { }");
        }
        Yards.right("to a() { } to b() { } to tag() { } to laya() { } to sen() { }");
        FreightYards x = Yards.fresh("the text before has a");
        Yards.loaded(x, "to a() { }");
        Yards.loaded(x, "to a() { }");
    }

    private static void namesOnceWhereKnown() {
        Yards.sentence("a parameter, var, catch: those known there");
        Yards.faulty(3, "to m(INT x, BOX ~x) { }");
        Yards.faulty(3, "to m(INT x) { var INT ~x = 1; }");
        Yards.faulty(3, "to m(INT x) { try { } catch (~x) { } }");
        bad(3, "var INT x = 1; var BOX ~x = none;");
        bad(3, "var INT x = 1; if (1) { var BOX ~x = none; }");
        bad(3, "var INT x = 1; try { } catch (~x) { }");
        bad(3, "try { } catch (x) { var INT ~x = 1; }");
        bad(3, "try { } catch (x) { try { } catch (~x) { } }");
        Yards.right("to m(INT x) { } to n(INT x) { }");
        good("try { var INT x = 1; } catch (x) { } var INT x = 1;");
        good("if (1) { var INT x = 1; } else { var INT x = 1; } while (1) { var INT x = 1; } try { } catch (x) { }");
    }

    private static void parametersAreKnownToTheEnd() {
        Yards.sentence("parameters .. on to the end of their BLOCK");
        Yards.right("to m(INT x) { if (1) { while (1) { say x; } } say x; }");
        Yards.faulty(2, "to m(INT x) { } to n() { say ~x; }");
    }

    private static void varsAreKnownBehindTheirEnd() {
        Yards.sentence("var NAMES .. from behind their STATEMENT's first part (of var: its ; ) on");
        bad(2, "var INT x = ~x;");
        bad(2, "var INT x = 1 + ~x + 1;");
        good("var INT x = 1; var INT y = x; x = x + y;");
        good("var INT x = 1; if (x) { say x; } say x;");
    }

    private static void varsAreForgottenWithTheirBlock() {
        Yards.sentence("on to the end of their BLOCK");
        bad(2, "if (1) { var INT x = 1; say x; } say ~x;");
        bad(2, "if (1) { var INT x = 1; } else { say ~x; }");
        bad(2, "if (1) { } else { var INT x = 1; } say ~x;");
        bad(2, "while (1) { var INT x = 1; } say ~x;");
        bad(2, "while (1) { if (1) { var INT x = 1; } say ~x; }");
        bad(2, "try { var INT x = 1; } catch (e) { say ~x; }");
        bad(2, "try { } catch (e) { var INT x = 1; } say ~x;");
    }

    private static void catchNamesInTheirBlock() {
        Yards.sentence("(of catch its own)");
        good("try { } catch (e) { if (1) { say e; } e = 2; }");
        bad(2, "try { say ~e; } catch (e) { }");
        bad(2, "try { } catch (e) { } say ~e;");
        bad(2, "try { } catch (e) { } try { } catch (f) { say ~e; }");
    }

    private static void twentyFourNames() {
        Yards.sentence("parameters and var NAMES (24 in a PROC, catch's, too); 5 TOO MUCH: the 25th NAME of a PROC");
        Yards.right("to m() { " + vars(0, 24) + "}");
        Yards.faulty(5, "to m() { " + vars(0, 24) + "var INT ~x = 1; }");
        Yards.faulty(5, "to m() { " + vars(0, 24) + "var INT ~x");
        Yards.right("to m(INT a, INT b, INT c, INT d) { " + vars(0, 20) + "}");
        Yards.faulty(5, "to m(INT a, INT b, INT c, INT d) { " + vars(0, 20) + "var INT ~x = 1; }");
        Yards.faulty(5, "to m(INT a) { " + vars(0, 23) + "var INT ~x = 1; }");
        Yards.right("to m() { " + vars(0, 23) + "try { } catch (x) { } }");
        Yards.faulty(5, "to m() { " + vars(0, 24) + "try { } catch (~x) { } }");
        Yards.faulty(5, "to m() { try { } catch (x) { } " + vars(0, 23) + "var INT ~y = 1; }");
        Yards.right("to m() { " + vars(0, 24) + "} to n(INT a) { " + vars(0, 23) + "}");
        Yards.due("given", 24, Yards.given("to m(): INT { var INT s = 0; " + vars(0, 23) + "s = a0 + a22; a22 = 22; "
            + "return s + a22; }", 0, 0));
    }

    // ---- 800 tokens: a head of 7, and statements of 2 and of 3 ----

    private static final String HEAD = "to m(INT i){";

    private static String tokens(int n) {
        int left = n - 7;
        StringBuilder s = new StringBuilder(HEAD);
        while (left % 3 != 0) {
            s.append("return;");
            left -= 2;
        }
        return s.append("say 1;".repeat(left / 3)).toString();
    }

    private static void eightHundredTokens() {
        Yards.sentence("5 TOO MUCH: .. the 801st token");
        Yards.right(tokens(799) + "}");
        Yards.right(tokens(799) + "} \n ");
        Yards.right(tokens(798) + "}");
        Yards.faulty(5, tokens(800) + "~}");
        Yards.faulty(5, tokens(799) + "}~to n(){}");
        Yards.faulty(5, tokens(800) + "~say 1;}");
        Yards.faulty(5, tokens(799) + "say ~1;}");
        Yards.faulty(5, tokens(798) + "say 1~;}");
        Yards.faulty(5, tokens(800) + "~i=1;}");
        Yards.faulty(5, tokens(798) + "i=~1;}");
        Yards.faulty(5, tokens(798) + "var INT ~x=1;}");
        Yards.faulty(5, tokens(796) + "var INT x=~1;}");
        Yards.faulty(5, tokens(799) + "m~(1);}");
        Yards.faulty(5, tokens(797) + "m(1~);}");
        Yards.faulty(5, tokens(799) + "if~(1){}}");
        Yards.faulty(5, tokens(796) + "if(1)~{}}");
        Yards.faulty(5, tokens(800) + "~try{}catch(e){}}");
        Yards.faulty(5, tokens(797) + "try{}~catch(e){}}");
        Yards.faulty(5, tokens(795) + "try{}catch(~e){}}");
    }

    private static void eightHundredAndFirstIsTheLeastFault() {
        Yards.sentence("of one token the least (of the 801st token)");
        Yards.faulty(1, tokens(800) + "~)");
        Yards.faulty(1, tokens(800) + "~$");
        Yards.faulty(1, tokens(800) + "~");
        Yards.faulty(1, tokens(800) + "~abcdefghi");
        Yards.faulty(2, tokens(800) + "~x=1;}");
        Yards.faulty(2, tokens(800) + "~x();}");
        Yards.faulty(3, tokens(798) + "var INT ~i=1;}");
        Yards.faulty(2, tokens(797) + "say i.~foo;}");
        Yards.faulty(4, tokens(797) + "say i.~tag;}");
        Yards.faulty(4, tokens(797) + "say i.~size;}");
        Yards.faulty(4, tokens(797) + "say 1 is ~BOX;}");
        Yards.faulty(4, tokens(798) + "fail none~;}");
        Yards.faulty(4, tokens(797) + "m(none~);}");
        Yards.faulty(4, tokens(796) + "say i[1~];}");
        Yards.faulty(4, tokens(798) + "say none~+1;}");
    }

    private static void leastFaultOfOneToken() {
        Yards.sentence("of one token the least");
        bad(2, "say 1.~foo;");
        bad(2, "say r.~foo;");
        bad(1, "say 1.~abcdefghi;");
        Yards.faulty(3, procs(12) + "to ~p0() { }");
        Yards.faulty(3, procs(12) + "to ~now() { }");
        Yards.faulty(3, "to m(INT a, INT b, INT c, INT d, INT ~a) { }");
        Yards.faulty(3, "to m() { " + vars(0, 24) + "var INT ~a0 = 1; }");
        Yards.faulty(3, "to m() { " + vars(0, 24) + "try { } catch (~a0) { } }");
        bad(1, "say none[0~;");
        bad(1, "if (none ~; ");
        bad(1, "var INT x = none ~, ");
        bad(1, "lay(none ~; ");
    }

    private static void rightSidesGoAhead() {
        Yards.sentence("of its right side, as soon as that is read, ahead of all that is asked of the token behind it");
        for (String sign : new String[] {"+", "-", "*", "<"}) {
            for (String behind : new String[] {"$", "", "foo", "to", "1234567890", "BOXX", "]"}) {
                bad(4, "say 1 ~" + sign + " none " + behind);
                bad(4, "say 1 ~" + sign + " v " + behind);
                bad(4, "say 1 ~" + sign + " (v) " + behind);
            }
        }
        for (String sign : new String[] {"==", "!="}) {
            bad(4, "say 1 ~" + sign + " none $");
            bad(4, "say none ~" + sign + " 1 $");
            bad(4, "say 1 ~" + sign + " none == 1;");
        }
        Yards.sentence("of its right side: as much as belongs to it");
        good("say 1 + b.load; say 1 * r[0].tag; say 1 < v is BOX; say 1 - r.size; say none == r[0];");
        bad(4, "say 1 + v ~* 2;");
        bad(4, "say 1 ~* v + 2;");
        bad(4, "say 1 + 1 ~< v;");
        bad(4, "say 1 < v ~+ 2;");
        bad(4, "say 1 ~+ v < foo;");
    }

    private static void leftSidesAtTheSign() {
        Yards.sentence("what is wanted of a sign's left side, when the sign is read");
        for (String sign : new String[] {"+", "-", "*", "<"}) {
            bad(4, "say none ~" + sign + " foo;");
            bad(4, "say v ~" + sign + " $");
            bad(4, "say r ~" + sign);
        }
        Yards.faulty(4, "to f() { } to m() { say f() ~== foo; }");
        Yards.faulty(4, "to f() { } to m() { say f() ~!= $");
        bad(2, "say none == ~foo;");
        bad(2, "say 1 == ~foo;");
    }

    // ---- types ----

    private static void oneTooManyOrTooFew() {
        Yards.sentence("at the , or ) of a CALL behind each E (.. also one too many) and at its ) (too few)");
        String f = "to f(INT a, BOX b): INT { } to g() { } to h(INT a, INT b, INT c, INT d) { } to m() { ";
        Yards.right(f + "f(1, none); g(); h(1, 2, 3, 4); track(1); lay(1, none); hump(none, none); send(none, 1, 1); now(); }");
        Yards.faulty(4, f + "f(~); }");
        Yards.faulty(4, f + "f(1~); }");
        Yards.faulty(4, f + "f(1, none, 1~); }");
        Yards.faulty(4, f + "f(1, none, 1~, foo); }");
        Yards.faulty(4, f + "g(1~); }");
        Yards.faulty(4, f + "g(1~, 2); }");
        Yards.faulty(4, f + "h(1, 2, 3~); }");
        Yards.faulty(4, f + "h(1, 2, 3, 4, 5~); }");
        Yards.faulty(4, f + "h(1, 2, 3, 4, 5~, 6); }");
        Yards.faulty(4, f + "track(~); }");
        Yards.faulty(4, f + "track(1, 2~); }");
        Yards.faulty(4, f + "lay(1~); }");
        Yards.faulty(4, f + "lay(1, none, 2~); }");
        Yards.faulty(4, f + "hump(none~); }");
        Yards.faulty(4, f + "hump(none, none, none~); }");
        Yards.faulty(4, f + "send(none, 1~); }");
        Yards.faulty(4, f + "send(none, 1, 1, 1~); }");
        Yards.faulty(4, f + "now(1~); }");
        Yards.faulty(1, f + "f(1,~); }");
        Yards.faulty(1, f + "f(~, none); }");
        Yards.faulty(1, f + "g(1 ~; }");
    }

    private static void placesThatMayNotStand() {
        Yards.sentence("at the = of a PLACE (mass, grip, pull may not stand there)");
        Yards.right("to m(STEAM s, REEFER r, CRANE c) { s.tag = 1; s.behind = r; s.fuel = 1; r.load = 1; r.chill = 1; "
            + "r.fuel = 1; c.reach = 1; c.load = 1; }");
        Yards.faulty(4, "to m(STEAM s) { s.mass ~= 1; }");
        Yards.faulty(4, "to m(STEAM s) { s.grip ~= 1; }");
        Yards.faulty(4, "to m(STEAM s) { s.pull ~= 1; }");
        Yards.faulty(4, "to m(STEAM s) { s.behind.mass ~= 1; }");
        Yards.faulty(4, "to m(STEAM s) { s.mass ~= foo; }");
        Yards.faulty(1, "to m(STEAM[] s) { s.size ~= 1; }");
        Yards.sentence("STATEMENT: .. UNIT ; (one that is a CALL)");
        for (String ahead : new String[] {"", "now(); ", "i = 1; ", "r[0] = b; ", "v.tag = 1; ", "say now(); "}) {
            for (String unit : new String[] {"1", "-1", "none", "i", "(i)", "(now())", "new BOX()", "new BOX[2]",
                "new BOX[now()]", "r[0]", "r[now()]", "track(0)[0]", "v.tag", "r.size", "track(0).size", "v as BOX", "v is BOX",
                "track(0) as BOX[]", "track(0) is BOX[]"}) {
                bad(1, ahead + unit + "~;");
            }
            for (String unit : new String[] {"1", "-1", "none", "(i)", "(now())", "now()", "new BOX()", "new BOX[2]",
                "new BOX[i]", "(r[0])", "r.size", "(v.tag)", "v as BOX", "v is BOX", "v.behind as BOX", "r[0] is BOX"}) {
                bad(1, ahead + unit + " ~= 1;");
            }
            good(ahead + "i = 1; r[0] = none; v.tag = 1; (r)[0] = none; (v).tag = 1; new BOX[1][0] = none; "
                + "new BOX().tag = 1; track(0)[0] = none; track(0)[0].tag = 1; (v as BOX).load = 1; v as BOX.load = 1;");
        }
    }

    private static void returnsAsTold() {
        Yards.sentence("return (a PROC with : wants its TYPE, one without no E)");
        Yards.right("to m(): INT { return 1; }");
        Yards.right("to m() { return; }");
        Yards.right("to m(): INT { } to n(): BOX { }");
        Yards.faulty(4, "to m(): INT { return~; }");
        Yards.faulty(4, "to m(): BOX { return~; }");
        Yards.faulty(4, "to m() { return 1~; }");
        Yards.faulty(4, "to m() { return none~; }");
        Yards.faulty(4, "to m(): WAGON { return new VEHICLE()~; }");
        Yards.right("to m(): WAGON { return new WAGON(); } to n(): WAGON { return new CRANE(); }");
        Yards.faulty(4, "to m() { return m()~; }");
    }
}
