/** The term EXPANDING up to csname, sentence by sentence: arguments and the commands that are no conditionals. */
public final class MacroSentencesTest {
    private static final int OTHER = 12;
    /** A macro that keeps its argument as the body of b. */
    private static final String ONE = "\\def\\a#1{\\def\\b{#1}}\\a";
    private static final String DOT = "\\def\\a#1.{\\def\\b{#1}}\\a ";

    public static void main(String[] args) {
        textInFrontOfTheFirstParameter();
        theSameCharactersCategoriesAndNames();
        anotherOneIsFault6();
        bracesAreCharactersThemselves();
        blanksArePassed();
        theTokenGot();
        allUpToTheBraceThatBelongs();
        upToWhereTheTokensStand();
        forTheFirstTime();
        outsideOfGroups();
        gotAndGone();
        withoutBothBraces();
        theFortyFirstToken();
        blanksThatArePassedDoNotCount();
        bracesAndTokensBehindCount();
        parInAnArgument();
        closingBraceOfNone();
        inThisOrder();
        theBodyIsPutBack();
        expandafter();
        noexpand();
        stringOfNames();
        stringOfCharacters();
        csnameUpToEndcsname();
        csnameOfCharactersAlone();
        csnameOfNoneAndOfTwelve();
        csnameMeansRelax();
        csnameOfOneCharacter();
        Probe.end();
    }

    /** "the tokens of its TEXT in front of its first parameter must come". */
    private static void textInFrontOfTheFirstParameter() {
        Probe.ran("\\def\\a{1}\\a").outs("1").fine();
        Probe.ran("\\def\\a.{1}\\a.").outs("1").fine();
        Probe.ran("\\def\\a123456789012{x}\\a123456789012").outs("x").fine();
        Probe.ran("\\def\\a.,#1{(#1)}\\a.,2").outs("(2)").fine();
        Probe.ran("\\def\\a.#1,{(#1)}\\a.2,").outs("(2)").fine();
        // Blanks are not passed there, and a blank may be one of them.
        Probe.ran("\\def\\a.{1}\\a  .").outs("1").fine();
        Probe.ran("\\def\\a. .{1}\\a. .").outs("1").fine();
        Probe.ran("\\def\\a. .{1}\\a..").fault(6);
    }

    /** "(the same characters and categories, the same names, whatever these mean; they are got;". */
    private static void theSameCharactersCategoriesAndNames() {
        Probe.ran("\\def\\a!{1}\\catcode!03\\a!").fault(6, 24);
        Probe.ran("\\def\\a\\x{1}\\let\\x2\\a\\x").outs("1").fine();
        Probe.ran("\\def\\a\\x{1}\\let\\y\\x\\a\\y").fault(6);
        Probe.ran("\\def\\a\\x{1}\\let\\x2\\a2").fault(6);
        Probe.ran("\\def\\a2{1}\\let\\x2\\a\\x").fault(6);
        Probe.ran("\\def\\a\\fi{1}\\a\\fi").outs("1").fine();
        Probe.ran("\\def\\a\\par{1}\\a%\n\n").outs("1").fine();
        // They are not expanded.
        Probe.ran("\\def\\b{.}\\def\\a.{1}\\a\\b").fault(6, 23);
    }

    /** "another one: fault 6)". */
    private static void anotherOneIsFault6() {
        Probe.ran("\\def\\a.{}\\a,").fault(6, 12).count(1, 2);
        Probe.ran("\\def\\a..{}\\a.,").fault(6, 14);
        Probe.ran("\\def\\a.{}\\a}").fault(6, 12);
        Probe.ran("\\def\\a.{}\\a{").fault(6, 12).count(2, 0);
        Probe.ran("\\def\\a.{}\\a\\par").fault(6, 15);
        Probe.ran("\\def\\a.{}\\a").fault(3, 11);
        Probe.ran("\\def\\a123456789012{}\\a123456789013").fault(6, 34);
    }

    /** "(braces are characters themselves, here and in bodies, never names that mean them)". */
    private static void bracesAreCharactersThemselves() {
        String names = "\\let\\o={\\let\\c=}";
        Probe.ran(names + "\\def\\a#1{\\string#1}\\a\\o\\a\\c").outs("\\o\\c").fine();
        Probe.ran(names + ONE + "{\\c\\o\\o}").detail("b", 2, 3).fine();
        Probe.ran(names + DOT + "\\o.").detail("b", 2, 1).fine();
        Probe.ran(names + DOT + "\\o x\\c.").detail("b", 2, 3).fine();
        Probe.ran(names + "\\def\\b{\\o\\o}\\def\\d{\\c}").detail("b", 2, 2).detail("d", 2, 1).fine();
        Probe.ran(names + "\\edef\\b{\\o\\c\\c}").detail("b", 2, 3).fine();
        // Of whatever code, but of the categories 1 and 2.
        Probe.ran("\\catcode<1\\relax\\catcode>2\\def\\a#1<(#1)>\\a<12}").outs("(12)").fine();
        Probe.ran("\\catcode[1\\relax" + ONE + "[12}").detail("b", 2, 2).fine();
        Probe.ran("\\catcode{12\\catcode<1\\relax\\def\\a#1<\\string#1}\\a{").outs("{").out(0, '{', OTHER).fine();
    }

    /** "of a parameter with no tokens between it and the next one, or the body: blanks (32 of category 10) are got and passed". */
    private static void blanksArePassed() {
        Probe.ran(ONE + "   1").detail("b", 2, 1).detail("b", 3, '1' + 256 * OTHER).fine();
        Probe.ran("\\def\\a#1#2{(#1,#2)}\\a1 2\\a{1} {2}\\a 1\n2").outs("(1,2)(1,2)(1,2)").fine();
        Probe.ran("\\def\\a.#1{(#1)}\\a. 1").outs("(1)").fine();
        Probe.ran("\\def\\a#1.#2{(#1,#2)}\\a1. 2").outs("(1,2)").fine();
        Probe.ran("\\def\\a#1#2.{(#1,#2)}\\a 1 2.").outs("(1, 2)").fine();
        // Not blanks of another category, and not in front of tokens that stand behind the parameter.
        Probe.ran("\\catcode\\ 12\\def\\a#1{(#1)}\\a .").outs("( ).").fine();
        Probe.ran("\\def\\a#1.{(#1)}\\def\\c{\\a}\\c{} 1.").outs("( 1)").fine();
        Probe.ran("\\let\\s= \\def\\a#1{\\string#1}\\a\\s").outs("\\s").fine();
        Probe.ran("\\def\\a#1{}\\a   ").fault(3, 15);
        Probe.ran("\\def\\a#1#2{}\\a1 ").fault(3, 16);
        Probe.ran("\\def\\a#1#2{}\\a1 }").fault(1, 17);
        Probe.ran("\\def\\a#1#2{}\\a1 \\par").fault(7, 20);
        // In braces a blank is an argument.
        Probe.ran("\\def\\a#1{(#1)}\\a{ }").outs("( )").fine();
    }

    /** "then the token got". */
    private static void theTokenGot() {
        Probe.ran("\\def\\a#1{(#1)}\\a12").outs("(1)2").fine();
        Probe.ran("\\def\\a#1{\\string#1}\\a\\fi").outs("\\fi").fine();
        Probe.ran("\\def\\a#1{(#1)}\\a#").outs("(#)").out(1, '#', 6).fine();
        Probe.ran("\\def\\a#1{\\string#1}\\a~").outs("~").fine();
    }

    /** "if that is a character of category 1, instead all up to the character of category 2 that belongs to it, without both". */
    private static void allUpToTheBraceThatBelongs() {
        Probe.ran(ONE + "{}").detail("b", 2, 0).fine();
        Probe.ran(ONE + "{1}").detail("b", 2, 1).fine();
        Probe.ran(ONE + "{{1}}").detail("b", 2, 3).detail("b", 3, '{' + 256).detail("b", 5, '}' + 512).fine();
        Probe.ran(ONE + "{{1}{2}}").detail("b", 2, 6).fine();
        Probe.ran(ONE + "{1{2}3}").detail("b", 2, 5).fine();
        Probe.ran(ONE + "{1}}").fault(1).detail("b", 2, 1);
        Probe.ran("\\def\\a#1{}\\a{{1}").fault(3, 16);
        Probe.ran("\\def\\a#1#2{(#1,#2)}\\a{1}{2}").outs("(1,2)").fine();
    }

    /** "Of any other parameter: the tokens got up to where the tokens between stand". */
    private static void upToWhereTheTokensStand() {
        Probe.ran(DOT + ".").detail("b", 2, 0).fine();
        Probe.ran(DOT + "1.").detail("b", 2, 1).fine();
        Probe.ran(DOT + "12.").detail("b", 2, 2).fine();
        Probe.ran("\\def\\a#1..{(#1)}\\a1.2...").outs("(1.2).").fine();
        Probe.ran("\\def\\a#1\\x{(#1)}\\a1\\x").outs("(1)").fine();
        Probe.ran("\\def\\a#1\\x{(#1)}\\let\\x2\\let\\y\\x\\a\\y\\x").outs("(2)").fine();
        Probe.ran("\\def\\a#1!{(#1)}\\a1\\relax!").outs("(1)").fine();
        Probe.ran("\\def\\a#1!{(#1)}\\catcode!03\\a1!").fault(3, 30);
        Probe.ran("\\def\\a#1 {(#1)}\\a12 3").outs("(12)3").fine();
        Probe.ran("\\def\\a#112345678901{(#1)}\\a x12345678901").outs("(x)").fine();
        Probe.ran("\\def\\a#1.#2,#3;#4:{#4#3#2#1}\\a1.2,3;4:").outs("4321").fine();
    }

    /** "for the first time". */
    private static void forTheFirstTime() {
        Probe.ran("\\def\\a#1.{(#1)}\\a1.2.").outs("(1)2.").fine();
        Probe.ran("\\def\\a#1112{(#1)}\\a1112").outs("(1)").fine();
        Probe.ran("\\def\\a#1aab{(#1)}\\a aaaab").outs("(aa)").fine();
        Probe.ran("\\def\\a#1aba{(#1)}\\a ababa").outs("()ba").fine();
        Probe.ran("\\def\\a#1abac{(#1)}\\a ababac").outs("(ab)").fine();
        Probe.ran("\\def\\a#1ab{(#1)}\\a aab").outs("(a)").fine();
    }

    /** "outside of such groups". */
    private static void outsideOfGroups() {
        Probe.ran(DOT + "{.}.").detail("b", 2, 1).fine();
        Probe.ran(DOT + "1{.}.").detail("b", 2, 4).fine();
        Probe.ran(DOT + "{{.}.}.").detail("b", 2, 4).fine();
        Probe.ran("\\def\\a#1..{(#1)}\\a.{}...").outs("(.).").fine();
        Probe.ran("\\def\\a#1..{(#1)}\\a{.}...").outs("(.).").fine();
        Probe.ran("\\def\\a#1..{(#1)}\\a{x.}...").outs("(x.).").fine();
        Probe.ran("\\def\\a#1.{}\\a{.").fault(3, 15);
    }

    /** "(they are got, too, and gone)". */
    private static void gotAndGone() {
        Probe.ran("\\def\\a#1.{(#1)}\\a1.").outs("(1)").fine().count(1, 5);
        Probe.of("\\def\\a#1...{}\\a1...2").run(2, 0).fault(0, 19).run(1, 0).outs("2");
    }

    /** "if what was got in front of them begins with a character of category 1 whose own of category 2 is its last, without both". */
    private static void withoutBothBraces() {
        Probe.ran(DOT + "{}.").detail("b", 2, 0).fine();
        Probe.ran(DOT + "{1}.").detail("b", 2, 1).fine();
        Probe.ran(DOT + "{{1}}.").detail("b", 2, 3).fine();
        Probe.ran(DOT + "{1}{2}.").detail("b", 2, 6).fine();
        Probe.ran(DOT + "{}{}.").detail("b", 2, 4).fine();
        Probe.ran(DOT + "{{}{}}.").detail("b", 2, 4).fine();
        Probe.ran(DOT + "1{2}.").detail("b", 2, 4).fine();
        Probe.ran(DOT + "{1}2.").detail("b", 2, 4).fine();
        Probe.ran(DOT + "{1} .").detail("b", 2, 4).fine();
        // The outer braces of an argument without tokens behind it are gone once.
        Probe.ran(ONE + "{{}}").detail("b", 2, 2).fine();
    }

    /** "The 41st token that is got for an argument .. is fault 5". */
    private static void theFortyFirstToken() {
        Probe.ran(ONE + "{" + Probe.times(38, "x") + "}").detail("b", 2, 38).fine();
        Probe.ran(ONE + "{" + Probe.times(39, "x") + "}").fault(5, ONE.length() + 41).meaning("b", 0);
        Probe.ran(DOT + Probe.times(39, "x") + ".").detail("b", 2, 39).fine();
        Probe.ran(DOT + Probe.times(40, "x") + ".").fault(5, DOT.length() + 41);
        // Each argument is counted alone, and so are the tokens in front of the first parameter.
        Probe.ran("\\def\\a#1#2{}\\a{" + Probe.times(38, "x") + "}{" + Probe.times(38, "x") + "}").fine();
        Probe.ran("\\def\\a#1#2{}\\a{" + Probe.times(38, "x") + "}{" + Probe.times(39, "x") + "}").fault(5);
        Probe.ran("\\def\\a12345#1{}\\a12345{" + Probe.times(38, "x") + "}").fine();
        Probe.ran("\\def\\a#1#2.{}\\a{" + Probe.times(38, "x") + "}" + Probe.times(39, "x") + ".").fine();
        // A name is one token.
        Probe.ran(ONE + "{" + Probe.times(38, "\\x") + "}").detail("b", 2, 38).fine();
    }

    /** "(all but blanks that are passed; ..". */
    private static void blanksThatArePassedDoNotCount() {
        String blanks = "\\def\\s{ }\\edef\\t{" + Probe.times(10, "\\s") + "}\\edef\\u{\\t\\t\\t}";
        Probe.ran(blanks + "\\def\\a#1{(#1)}\\def\\c#1{\\a#1#1#1x}\\expandafter\\c\\expandafter{\\u}").outs("(x)").fine();
        Probe.ran("\\def\\a#1#2{\\def\\b{#2}}\\a1 {" + Probe.times(38, "x") + "}").detail("b", 2, 38).fine();
        // A blank that is not passed counts.
        Probe.ran("\\def\\a#1#2.{}\\a1 " + Probe.times(38, "x") + ".").fine();
        Probe.ran("\\def\\a#1#2.{}\\a1 " + Probe.times(39, "x") + ".").fault(5);
        Probe.ran(ONE + "{" + Probe.times(19, "x ") + "}").detail("b", 2, 38).fine();
        Probe.ran(ONE + "{" + Probe.times(19, "x ") + "x}").fault(5);
    }

    /** "braces and the tokens behind it, too)". */
    private static void bracesAndTokensBehindCount() {
        Probe.ran(ONE + Probe.times(20, "{") + Probe.times(20, "}")).detail("b", 2, 38).fine();
        Probe.ran(ONE + "{" + Probe.times(19, "{}") + "}").detail("b", 2, 38).fine();
        Probe.ran(ONE + "{1" + Probe.times(19, "{}") + "}").fault(5, ONE.length() + 41);
        Probe.ran(DOT + "{" + Probe.times(37, "x") + "}.").detail("b", 2, 37).fine();
        Probe.ran(DOT + "{" + Probe.times(38, "x") + "}.").fault(5, DOT.length() + 41);
        String three = "\\def\\a#1...{\\def\\b{#1}}\\a ";
        Probe.ran(three + Probe.times(37, "x") + "...").detail("b", 2, 37).fine();
        Probe.ran(three + Probe.times(38, "x") + "...").fault(5, three.length() + 41);
    }

    /** "else the name par is fault 7, if it is none of the tokens that stand behind the parameter". */
    private static void parInAnArgument() {
        Probe.ran("\\def\\a#1{}\\a\\par").fault(7, 16);
        Probe.ran("\\def\\a#1{}\\a%\n\n").fault(7, 15);
        Probe.ran("\\def\\a#1{}\\a{1\\par").fault(7, 18);
        Probe.ran("\\def\\a#1.{}\\a1\\par.").fault(7, 18);
        Probe.ran("\\def\\a#1.{}\\a{\\par}.").fault(7, 18);
        Probe.ran("\\def\\a#1\\par{(#1)}\\a1\\par").outs("(1)").fine();
        Probe.ran("\\def\\a#1\\par{(#1)}\\a{\\par}\\par").outs("(|)").fine();
        Probe.ran("\\def\\a#1.\\par{(#1)}\\a1\\par2.\\par").outs("(1|2)").fine();
        Probe.ran("\\def\\a#1#2\\par{(#1)}\\a\\par").fault(7);
        Probe.ran("\\def\\a#1\\par#2{(#1)}\\a1\\par\\par").fault(7);
        // The name counts, not what it means; another name that means par is none.
        Probe.ran("\\let\\par1\\def\\a#1{}\\a\\par").fault(7);
        Probe.ran("\\let\\p\\par\\def\\a#1{(#1)}\\a\\p").outs("(|)").fine();
        // In front of the first parameter it may stand.
        Probe.ran("\\def\\a\\par#1{(#1)}\\a\\par1").outs("(1)").fine();
    }

    /** "a character of category 2 that belongs to none is fault 1". */
    private static void closingBraceOfNone() {
        Probe.ran("\\def\\a#1{}\\a}").fault(1, 13);
        Probe.ran("\\def\\a#1{}\\a  }").fault(1, 15);
        Probe.ran("\\def\\a#1.{}\\a}.").fault(1, 14);
        Probe.ran("\\def\\a#1.{}\\a1}.").fault(1, 15);
        Probe.ran("\\def\\a#1.{}\\a{}}.").fault(1, 16);
        Probe.ran("{\\def\\a#1{}\\a}").fault(1, 14).count(2, 1);
        Probe.ran("\\def\\a#1{}\\let\\c=}\\a\\c").fine();
    }

    /** "(in this order; the text's end 3 ahead of them)". */
    private static void inThisOrder() {
        String forty = Probe.times(40, "x");
        Probe.ran(DOT + forty).fault(3, DOT.length() + 40);
        Probe.ran(DOT + forty + "\\par").fault(5, DOT.length() + 44);
        Probe.ran(DOT + forty + "}").fault(5, DOT.length() + 41);
        Probe.ran(DOT + Probe.times(39, "x") + "\\par").fault(7, DOT.length() + 43);
        Probe.ran(DOT + Probe.times(39, "x") + "}").fault(1, DOT.length() + 40);
        Probe.ran(ONE + "{" + Probe.times(39, "x")).fault(3, ONE.length() + 40);
        Probe.ran(ONE + "{" + Probe.times(39, "x") + "\\par").fault(5);
        Probe.ran(ONE + "{" + Probe.times(38, "x") + "\\par").fault(7);
        // A character that cannot be read comes ahead of its being the 41st.
        Probe.ran("\\catcode!15" + DOT + forty + "!").fault(8);
    }

    /** "The body, with the arguments for its parameters, is put back." */
    private static void theBodyIsPutBack() {
        Probe.ran("\\def\\a{}\\a1").outs("1").fine();
        Probe.ran("\\def\\a#1#2#3#4{#4#3#2#1#1}\\a1234").outs("43211").fine();
        Probe.ran("\\def\\a#1{}\\a12").outs("2").fine();
        Probe.ran("\\def\\a#1{2#13}\\a{}").outs("23").fine();
        // A parameter in an argument's place is not looked at once more: # and 1 stay two tokens.
        Probe.ran("\\def\\a#1{#1}\\a{#1}").outs("#1").out(0, '#', 6).fine();
        Probe.ran("\\def\\a#1#2{#2#1}\\a{#2}3").outs("3#2").fine();
        // Braces in a body open a group when they come.
        Probe.ran("\\def\\a#1{{\\let\\x1\\x#1}}\\a{\\x}").outs("11").meaning("x", 0).fine();
        // The body is that of the macro as it was made, and the categories those of then.
        Probe.ran("\\def\\a{!}\\catcode!03\\a").out(0, '!', OTHER).fine();
    }

    /** "expandafter: a token is got, then another one; if that is expandable, it is expanded, else put back; then the first one is put back." */
    private static void expandafter() {
        Probe.ran("\\def\\a{12}\\expandafter0\\a").outs("012").fine().count(1, 5);
        Probe.ran("\\expandafter12").outs("12").fine().count(1, 3);
        Probe.ran("\\expandafter1\\x").fault(2).outs("1");
        Probe.ran("\\def\\a#1{(#1)}\\def\\b{12}\\expandafter\\a\\b").outs("(1)2").fine();
        Probe.ran("\\def\\b{}\\expandafter\\def\\b\\c{1}\\c").outs("1").fine();
        Probe.ran("\\expandafter\\fi\\iftrue").fine().count(3, 0);
        Probe.ran("\\expandafter1\\iftrue2\\fi").outs("12").fine();
        Probe.ran("\\expandafter1\\fi").fault(1, 16);
        Probe.ran("\\expandafter\\x\\fi").fault(1, 17);
        Probe.ran("\\expandafter1").fault(3, 13);
        Probe.ran("\\expandafter").fault(3, 12);
        // The first one is not looked at: a brace, a macro, a name that means nothing.
        Probe.ran("\\expandafter{\\string}").outs("}").count(2, 1).fine();
        Probe.ran("\\def\\a{1}\\def\\b{2}\\expandafter\\a\\b").outs("12").fine();
    }

    /** "noexpand: a token is got and put back, marked if it is an expandable name." */
    private static void noexpand() {
        Probe.ran("\\noexpand1\\noexpand{").outs("1").count(2, 1).fine().count(1, 4);
        Probe.ran("\\def\\a{1}\\noexpand\\a2").outs("2").fine();
        Probe.ran("\\noexpand\\x").fault(2, 11);
        Probe.ran("\\noexpand\\par").outs("|").fine();
        Probe.ran("\\let\\a1\\noexpand\\a").outs("1").fine();
        Probe.ran("\\noexpand").fault(3, 9);
        Probe.ran("\\noexpand\\").fault(3, 10);
        Probe.ran("\\edef\\a{\\noexpand\\fi\\noexpand\\x}").detail("a", 2, 2).fine();
    }

    /** "string: a token is got; put back: for a name \ and its characters (of an active one that alone)". */
    private static void stringOfNames() {
        Probe.ran("\\string\\a").outs("\\a").out(0, '\\', OTHER).out(1, 'a', OTHER).fine();
        for (int length = 1; length <= 11; length++) {
            String name = "abcdefghijk".substring(0, length);
            Probe.ran("\\string\\" + name).outs("\\" + name).fine();
        }
        Probe.ran("\\string~").outs("~").out(0, '~', OTHER).fine();
        Probe.ran("\\string\\~").outs("\\~").fine();
        Probe.ran("\\def\\a{1}\\string\\a\\string\\fi\\string\\par").outs("\\a\\fi\\par").fine();
        Probe.ran("\\string%\n\n").outs("\\par").fine();
        // It is the character \, whatever its category, and whatever the escape character is.
        Probe.ran("\\catcode|00\\catcode\\\\3|string|a").outs("\\a").out(0, '\\', OTHER).fine();
        Probe.ran("\\string").fault(3, 7);
    }

    /** "for a character that; all with the category 12, a blank with 10". */
    private static void stringOfCharacters() {
        Probe.ran("\\string{\\string}\\string$\\string#\\string1\\string a").outs("{}$#1a").out(0, '{', OTHER)
                .out(1, '}', OTHER).out(2, '$', OTHER).out(3, '#', OTHER).out(5, 'a', OTHER).fine().count(2, 0);
        Probe.ran("\\catcode\\ 12\\string ").out(0, ' ', 10).fine();
        Probe.ran("\\catcode\\ 13\\string ").out(0, ' ', 10).count(0, 1).fine();
        Probe.ran("\\string\\ ").outs("\\ ").out(1, ' ', 10).fine();
        Probe.ran("\\def\\s{\\string}1\\catcode\\ 12\\s ").outs("1 ").out(1, ' ', 10).fine();
        Probe.ran("\\catcode\\\n12\\string\n").out(0, '\n', OTHER).fine();
        Probe.ran("\\csname a b\\endcsname\\expandafter\\string\\csname a b\\endcsname").outs("\\a b").out(2, ' ', 10).fine();
    }

    /** "csname: tokens are got expanded up to one that means endcsname". */
    private static void csnameUpToEndcsname() {
        Probe.ran("\\def\\ab{1}\\csname ab\\endcsname2").outs("12").fine();
        Probe.ran("\\def\\ab{1}\\def\\x{a}\\csname\\x b\\endcsname").outs("1").fine();
        Probe.ran("\\def\\ab{1}\\def\\x{b\\endcsname2}\\csname a\\x").outs("12").fine();
        Probe.ran("\\let\\e\\endcsname\\csname a\\e").detail("a", 0, 2).fine();
        Probe.ran("\\let\\endcsname\\relax\\csname a\\endcsname").fault(4);
        Probe.ran("\\csname\\iftrue a\\else b\\fi\\endcsname").detail("a", 0, 2).meaning("b", 0).fine();
        Probe.ran("\\csname a").fault(3, 9);
        Probe.ran("\\csname a\\fi").fault(1, 12);
    }

    /** "each other one must be a character itself (else fault 4)". */
    private static void csnameOfCharactersAlone() {
        String[] wrong = {"\\relax", "\\x", "\\par", "\\def", "~", "\\noexpand\\fi"};
        for (String token : wrong) {
            Probe.ran("\\csname" + token).fault(4, 7 + token.length());
            Probe.ran("\\csname a" + token).fault(4, 9 + token.length());
        }
        Probe.ran("\\let\\x1\\csname\\x\\endcsname").fault(4, 16);
        // Characters of whatever category.
        Probe.ran("\\csname{}$#^_ a1\\endcsname").detail("{}$#^_ a", 0, -1).fine().count(2, 0);
        Probe.ran("\\csname{}$#^_ 1\\endcsname").detail("{}$#^_ 1", 0, 2).fine().count(2, 0);
    }

    /** "these are a name (none: fault 4; at the twelfth fault 5)". */
    private static void csnameOfNoneAndOfTwelve() {
        Probe.ran("\\csname\\endcsname").fault(4, 17).count(1, 1);
        Probe.ran("\\def\\x{}\\csname\\x\\endcsname").fault(4, 27);
        Probe.ran("\\csname a\\endcsname").fine();
        Probe.ran("\\let\\abcdefghijk1\\csname abcdefghijk\\endcsname").outs("1").fine();
        Probe.ran("\\csname abcdefghijkl").fault(5, 20);
        Probe.ran("\\csname abcdefghijklm").fault(5, 20);
        Probe.ran("\\csname abcdefghijk\\relax").fault(4, 25);
        Probe.ran("\\csname abcdefghijk").fault(3, 19);
        // Two that differ in their first or last character alone are two.
        Probe.ran("\\let\\abcdefghijk1\\csname Abcdefghijk\\endcsname").outs("").fine();
        Probe.ran("\\let\\abcdefghijk1\\csname abcdefghijK\\endcsname").outs("").fine();
    }

    /** "If it means nothing it means relax from now on (in this group); it is put back." */
    private static void csnameMeansRelax() {
        Probe.ran("\\csname a\\endcsname\\a").outs("").detail("a", 0, 2).fine().count(1, 3);
        Probe.ran("{\\csname a\\endcsname\\a}\\a").fault(2).meaning("a", 0);
        Probe.ran("{\\csname a\\endcsname{\\csname a\\endcsname}\\a}").fine().meaning("a", 0);
        Probe.ran("\\let\\a1\\csname a\\endcsname").outs("1").fine();
        Probe.ran("\\def\\a{1}{\\csname a\\endcsname}").outs("1").meaning("a", 3).fine();
        Probe.ran("\\csname par\\endcsname").outs("|").fine();
        Probe.ran("\\csname iftrue\\endcsname1\\csname fi\\endcsname").outs("1").count(3, 0).fine();
        // Put back, it is a token like others: here def gets it.
        Probe.ran("\\expandafter\\def\\csname a\\endcsname{1}\\a").outs("1").fine();
        Probe.ran("\\edef\\b{\\csname a\\endcsname}").detail("b", 2, 1).detail("b", 3, 4096).fine();
    }

    /** "(If it is one character, it is the name that is not active.)" */
    private static void csnameOfOneCharacter() {
        Probe.ran("\\let\\~1\\catcode~12\\csname~\\endcsname").outs("1").fine();
        Probe.ran("\\let~2\\let\\~1\\csname\\string~\\endcsname").outs("1").fine();
        Probe.ran("\\let~2\\csname\\string~\\endcsname").outs("").fine().detail("~", 0, 2).activeMeaning("~", 2);
        Probe.ran("\\let\\a1\\csname a\\endcsname").outs("1").fine();
    }
}
