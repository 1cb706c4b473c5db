/** The terms about def, gdef, edef, let, catcode and the changes that are kept, sentence by sentence. */
public final class DefinitionSentencesTest {
    private static final int OTHER = 12;
    private static final String[] DEFINERS = {"\\def", "\\gdef", "\\edef"};
    /** Makes 60 macros: three times d, x, and seven times the eight that x makes. */
    private static final String SIXTY = "\\def\\d{}\\def\\d{}\\def\\d{}\\def\\x{" + Probe.times(8, "\\def\\d{}") + "}"
            + Probe.times(7, "\\x");
    /** Opens 30 groups with two changes in each, of x and of y. */
    private static final String KEPT = "\\let\\o={\\def\\b{\\o\\let\\x1\\let\\y2}\\def\\c{\\b\\b\\b\\b\\b\\b}\\c\\c\\c\\c\\c";

    public static void main(String[] args) {
        aNameIsGot();
        textUpToABrace();
        parametersOfTheText();
        anythingElseBehindTheSix();
        closingBraceInTheText();
        moreThanTwelveInTheText();
        bodyUpToTheBraceThatBelongs();
        twoOfCategorySix();
        digitsOfParameters();
        neitherInTheBody();
        moreThanFortyInTheBody();
        expandedBodies();
        othersOnlyGot();
        moreThanSixtyMacros();
        lookedAtWhenTheBodyIsThere();
        inThisGroup();
        inAllGroups();
        letGetsAName();
        letPassesOneEquals();
        letTakesTheMeaning();
        catcodeOfCharactersAndNames();
        catcodeNeedsADigit();
        catcodeOfTwoDigits();
        catcodeOfMoreThanFifteen();
        catcodeInThisGroup();
        moreThanSixtyChanges();
        keptOncePerGroup();
        notKeptByGdef();
        notKeptOutsideOfGroups();
        faultEndsTheRun();
        Probe.end();
    }

    /** "def, gdef, edef: a name is got (any one, a command's, an active or a marked one, too; else fault 4)". */
    private static void aNameIsGot() {
        String[] commands = {"par", "relax", "def", "gdef", "edef", "let", "catcode", "expandafter", "noexpand",
            "csname", "endcsname", "string", "if", "ifx", "iftrue", "iffalse", "else", "fi", "a", "abcdefghijk"};
        for (String definer : DEFINERS) {
            for (String name : commands) {
                Probe.ran(definer + "\\" + name + "{1}\\" + name).outs("1").fine();
            }
            Probe.ran(definer + "~{1}~").outs("1").fine().activeMeaning("~", 3).meaning("~", 0);
            Probe.ran("\\expandafter" + definer + "\\noexpand\\fi{1}\\fi").outs("1").fine();
            Probe.ran(definer + "1{}").fault(4, definer.length() + 1);
            Probe.ran(definer + "{}").fault(4, definer.length() + 1);
            Probe.ran(definer + "}").fault(4, definer.length() + 1);
            Probe.ran(definer + " a{}").fault(4, definer.length() + 2);
            Probe.ran(definer).fault(3, definer.length());
        }
    }

    /** "then the TEXT: tokens up to a character of category 1". */
    private static void textUpToABrace() {
        Probe.ran("\\def\\a{}").detail("a", 1, 0).fine();
        Probe.ran("\\def\\a 1\\x~{}").detail("a", 1, 3).fine();
        Probe.ran("\\let\\o={\\def\\a\\o{1}").detail("a", 1, 1).detail("a", 2, 1).fine();
        Probe.ran("\\catcode<1\\relax\\def\\a.<1}").detail("a", 1, 1).detail("a", 2, 1).fine();
        Probe.ran("\\def\\a1").fault(3, 7);
        // The text of an edef is not expanded.
        Probe.ran("\\def\\x{}\\edef\\a\\x{1}\\a\\x").outs("1").detail("a", 1, 1).fine();
        Probe.ran("\\edef\\a\\fi\\else{1}\\a\\fi\\else").outs("1").detail("a", 1, 2).fine();
    }

    /** "a character of category 6 and the digit (a character, any category) 1 behind it, next time 2, .., up to 4, are a PARAMETER". */
    private static void parametersOfTheText() {
        Probe.ran("\\def\\a#1{}").detail("a", 0, 1).detail("a", 1, 1).fine();
        Probe.ran("\\def\\a#1#2#3#4{}").detail("a", 0, 4).detail("a", 1, 4).fine();
        Probe.ran("\\def\\a.#1.#2.{}").detail("a", 0, 2).detail("a", 1, 5).fine();
        Probe.ran("\\catcode!6\\def\\a!1#2{}").detail("a", 0, 2).fine();
        int[] categories = {1, 2, 3, 4, 6, 7, 8, 11, 12};
        for (int category : categories) {
            String number = category < 10 ? "0" + category : "" + category;
            Probe.ran("\\catcode1" + number + "\\def\\a#1{}").detail("a", 0, 1).detail("a", 1, 1).fine();
        }
        // Of the others no character comes.
        Probe.ran("\\catcode110\\def\\a#1{}").fault(4, 19);
        Probe.ran("\\catcode113\\def\\a#1{}").fault(4, 19);
        Probe.ran("\\catcode109\\def\\a#1{}").fault(4, 20);
    }

    /** "anything else behind it fault 4 (ahead of 5)". */
    private static void anythingElseBehindTheSix() {
        String[] wrong = {"#0", "#2", "#5", "#9", "##", "#x", "#{", "#}", "# ", "#\\x", "#~", "#\\par"};
        for (String six : wrong) {
            Probe.ran("\\def\\a" + six + "{}").fault(4, 6 + six.length()).count(4, 0).meaning("a", 0);
            Probe.ran("\\def\\a123456789012" + six).fault(4, 18 + six.length());
        }
        Probe.ran("\\def\\a#1#1{}").fault(4, 10);
        Probe.ran("\\def\\a#1#3{}").fault(4, 10);
        Probe.ran("\\def\\a#1#2#3#3{}").fault(4, 14);
        Probe.ran("\\def\\a#1#2#3#4#5{}").fault(4, 16);
        Probe.ran("\\def\\a#1#2#3#4#4{}").fault(4, 16);
        Probe.ran("\\let\\x1\\def\\a#\\x{}").fault(4, 16);
        Probe.ran("\\def\\a12345678#1#2#3#4#5{}").fault(4, 24);
        for (char c = 'A'; c <= 'z'; c++) {
            Probe.ran(letterNames() + "\\def\\a#\\" + c + "{}").fault(4);
        }
        // The text's end behind it is fault 3.
        Probe.ran("\\def\\a#").fault(3, 7);
        Probe.ran("\\def\\a123456789012#").fault(3, 19);
    }

    /** Reads 52 names, the letters', so that names of very different places are known. */
    private static String letterNames() {
        StringBuilder text = new StringBuilder("\\iffalse");
        for (char c = 'A'; c <= 'Z'; c++) {
            text.append("\\").append(c).append("\\").append((char) (c + 32));
        }
        return text.append("\\fi").toString();
    }

    /** "a character of category 2 fault 1". */
    private static void closingBraceInTheText() {
        Probe.ran("\\def\\a}").fault(1, 7).count(4, 0);
        Probe.ran("\\def\\a.}{}").fault(1, 8);
        Probe.ran("{\\def\\a}").fault(1, 8).count(2, 1);
        Probe.ran("\\def\\a123456789012}").fault(1, 19);
        Probe.ran("\\let\\c=}\\def\\a\\c{}").detail("a", 1, 1).fine();
    }

    /** "more than 12 (a parameter counts as one): fault 5". */
    private static void moreThanTwelveInTheText() {
        Probe.ran("\\def\\a123456789012{}").detail("a", 1, 12).fine();
        Probe.ran("\\def\\a1234567890123{}").fault(5, 19).count(4, 0).meaning("a", 0);
        Probe.ran("\\def\\a12345678901{}").detail("a", 1, 11).fine();
        Probe.ran("\\def\\a12345678#1#2#3#4{}").detail("a", 1, 12).fine();
        Probe.ran("\\def\\a123456789#1#2#3#4{}").fault(5, 23);
        Probe.ran("\\def\\a#1#2#3#412345678{}").detail("a", 1, 12).fine();
        Probe.ran("\\def\\a#1#2#3#4123456789{}").fault(5, 23);
        Probe.ran("\\def\\a123456789012\\x{}").fault(5, 20);
        Probe.ran("\\def\\a123456789012").fault(3, 18);
        Probe.ran("\\edef\\a1234567890123{}").fault(5, 20);
        Probe.ran("\\gdef\\a1234567890123{}").fault(5, 20);
    }

    /** "Then the BODY: tokens up to the character of category 2 that belongs to that of 1". */
    private static void bodyUpToTheBraceThatBelongs() {
        Probe.ran("\\def\\a{}1").detail("a", 2, 0).outs("1").fine();
        Probe.ran("\\def\\a{{}}1").detail("a", 2, 2).outs("1").fine();
        Probe.ran("\\def\\a{1{2}{3{4}}}5").detail("a", 2, 10).outs("5").fine();
        Probe.ran("\\def\\a{1}}").fault(1, 10).detail("a", 2, 1);
        Probe.ran("\\def\\a{{1}").fault(3, 10).count(4, 0);
        Probe.ran("\\def\\a{").fault(3, 7);
        // Blanks, par and what means nothing may stand there.
        Probe.ran("\\def\\a{ 1 \\par\\x\n\n}").detail("a", 2, 6).fine();
    }

    /** "a character of category 6 must be followed by another one (whatever its code), with which it is that second one alone". */
    private static void twoOfCategorySix() {
        Probe.ran("\\def\\a{##}").detail("a", 2, 1).detail("a", 3, '#' + 256 * 6).fine();
        Probe.ran("\\def\\a{####}").detail("a", 2, 2).fine();
        Probe.ran("\\def\\a{###}").fault(4, 11);
        Probe.ran("\\catcode!6\\def\\a{#!}").detail("a", 2, 1).detail("a", 3, '!' + 256 * 6).fine();
        Probe.ran("\\catcode!6\\def\\a{!#}").detail("a", 2, 1).detail("a", 3, '#' + 256 * 6).fine();
        // Even a digit of one of the parameters, if it is of category 6.
        Probe.ran("\\catcode106\\def\\a#1{#1}").detail("a", 2, 1).detail("a", 3, '1' + 256 * 6).fine();
        Probe.ran("\\catcode106\\def\\a{11}").detail("a", 2, 1).detail("a", 3, '1' + 256 * 6).fine();
        Probe.ran("\\def\\a#1{##1}\\a2").outs("#1").fine();
        Probe.ran("\\edef\\a{##}").detail("a", 2, 1).detail("a", 3, '#' + 256 * 6).fine();
    }

    /** "or by the digit (of any other category) of one of the parameters, with which it is that". */
    private static void digitsOfParameters() {
        Probe.ran("\\def\\a#1{#1}").detail("a", 2, 1).detail("a", 3, 4097).fine();
        Probe.ran("\\def\\a#1#2#3#4{#4#1#1}").detail("a", 2, 3).detail("a", 3, 4100).detail("a", 4, 4097).fine();
        int[] categories = {1, 2, 3, 4, 7, 8, 11, 12};
        for (int category : categories) {
            String number = category < 10 ? "0" + category : "" + category;
            Probe.ran("\\catcode1" + number + "\\def\\a#1{#1}2").detail("a", 2, 1).detail("a", 3, 4097).outs("2").fine();
            Probe.ran("\\catcode1" + number + "\\edef\\a#1{#1}2").detail("a", 2, 1).detail("a", 3, 4097).outs("2").fine();
        }
    }

    /** "else fault 4 (ahead of 5)". */
    private static void neitherInTheBody() {
        String[] wrong = {"#0", "#3", "#4", "#5", "#9", "#x", "#{", "#}", "# ", "#\\x", "#~"};
        for (String six : wrong) {
            for (String definer : DEFINERS) {
                String start = definer + "\\a#1#2{";
                Probe.ran(start + six).fault(4, start.length() + six.length()).count(4, 0).meaning("a", 0);
                Probe.ran(start + Probe.times(40, "1") + six).fault(4, start.length() + 40 + six.length());
            }
        }
        Probe.ran("\\def\\a{#1}").fault(4, 9);
        Probe.ran("\\let\\x1\\def\\a#1{#\\x}").fault(4, 19);
        Probe.ran("\\def\\a{#").fault(3, 8);
        Probe.ran("\\def\\a{" + Probe.times(40, "1") + "#").fault(3, 48);
        for (char c = 'A'; c <= 'z'; c++) {
            Probe.ran(letterNames() + "\\def\\a#1#2#3#4{#\\" + c + "}").fault(4);
            Probe.ran(letterNames() + "\\edef\\a#1#2#3#4{#\\" + c + "}").fault(4);
        }
        // The digit of a parameter that is an active name by now.
        Probe.ran("\\def\\c{\\catcode113\\def\\b##1}\\c{#1}").fault(4).count(4, 1);
    }

    /** "more than 40: fault 5". */
    private static void moreThanFortyInTheBody() {
        for (String definer : DEFINERS) {
            String start = definer + "\\a#1{";
            Probe.ran(start + Probe.times(40, "x") + "}").detail("a", 2, 40).detail("a", 42, 'x' + 256 * 11)
                    .detail("a", 43, TokenMouth.NONE).fine();
            Probe.ran(start + Probe.times(41, "x") + "}").fault(5, start.length() + 41).count(4, 0).meaning("a", 0);
            Probe.ran(start + Probe.times(40, "#1") + "}").detail("a", 2, 40).fine();
            Probe.ran(start + Probe.times(40, "x") + "#1}").fault(5, start.length() + 42);
            Probe.ran(start + Probe.times(40, "x") + "##}").fault(5, start.length() + 42);
            Probe.ran(start + Probe.times(20, "{}") + "}").detail("a", 2, 40).fine();
            Probe.ran(start + Probe.times(20, "{}") + "{").fault(5, start.length() + 41);
            Probe.ran(start + Probe.times(40, "x")).fault(3, start.length() + 40);
            Probe.ran(start + "{" + Probe.times(39, "x") + "}").fault(5, start.length() + 41);
        }
        Probe.ran("\\def\\x{1234567890}\\edef\\a{\\x\\x\\x\\x}").detail("a", 2, 40).fine();
        Probe.ran("\\def\\x{1234567890}\\edef\\a{\\x\\x\\x\\x1}").fault(5).meaning("a", 0);
    }

    /** "The tokens of an edef's body are got expanded (braces and category 6 that come by that count)". */
    private static void expandedBodies() {
        Probe.ran("\\def\\x{12}\\edef\\a{\\x\\x}").detail("a", 2, 4).fine();
        Probe.ran("\\def\\x{{1}}\\edef\\a{\\x}").detail("a", 2, 3).fine();
        Probe.ran("\\def\\x{##}\\edef\\a{\\x\\x}").detail("a", 2, 1).detail("a", 3, '#' + 256 * 6).fine();
        Probe.ran("\\def\\x{##}\\edef\\a#1{\\x1}").detail("a", 2, 1).detail("a", 3, 4097).fine();
        Probe.ran("\\def\\x{1}\\edef\\a#1{#\\x}").detail("a", 2, 1).detail("a", 3, 4097).fine();
        Probe.ran("\\def\\x{##}\\edef\\a{\\x}").fault(4);
        Probe.ran("\\edef\\a{\\iftrue}\\else}\\fi").detail("a", 2, 0).outs("").fine().count(3, 0);
        Probe.ran("\\edef\\a{\\iffalse{\\else}\\fi1").outs("1").detail("a", 2, 0).fine().count(3, 0);
        Probe.ran("\\edef\\a{\\iffalse{\\fi}").detail("a", 2, 0).fine();
        Probe.ran("\\edef\\a{\\string}\\string#\\string{}").detail("a", 2, 3).fine();
        Probe.ran("\\edef\\a{\\expandafter}\\iffalse\\fi1").outs("1").detail("a", 2, 0).fine();
        Probe.ran("\\edef\\a{\\fi}").fault(1, 11).count(4, 0);
        // What can't be expanded stays, whatever it would do in a step.
        Probe.ran("\\edef\\a{\\def\\x\\par\\endcsname\\relax}").detail("a", 2, 5).fine().outs("");
    }

    /** "others only got". */
    private static void othersOnlyGot() {
        for (String definer : new String[] {"\\def", "\\gdef"}) {
            Probe.ran("\\def\\x{12}" + definer + "\\a{\\x\\x\\fi}").detail("a", 2, 3).fine().count(3, 0);
            Probe.ran("\\def\\x{##}" + definer + "\\a{\\x}").detail("a", 2, 1).detail("a", 3, 4096).fine();
        }
    }

    /** "More than 60 macros made: fault 5". */
    private static void moreThanSixtyMacros() {
        Probe.ran(SIXTY).fine().count(4, 60);
        for (String definer : DEFINERS) {
            Probe.ran(SIXTY + definer + "\\c{1}").fault(5, SIXTY.length() + definer.length() + 5).count(4, 60)
                    .meaning("c", 0).meaning("d", 3);
        }
        // All count: those of the same name, those whose group is closed, those that nothing means any more.
        Probe.ran("{\\def\\d{}\\let\\d1}\\def\\d{}").count(4, 2).fine();
        Probe.ran(SIXTY.replace("\\def\\d{}\\def\\d{}\\def\\d{}\\def", "{\\def\\d{}\\gdef\\d{}}\\edef\\d{}\\def") + "\\def\\c{}")
                .fault(5).count(4, 60);
        Probe.ran(SIXTY + "\\let\\c\\x").fine().count(4, 60).meaning("c", 3);
        Probe probe = Probe.ran(SIXTY + "\\def\\c{}").fault(5);
        probe.mouth.again();
        probe.count(4, 0).runOut().fault(5).count(4, 60);
    }

    /** "(looked at when the body is there; it is made, and then the name changes)". */
    private static void lookedAtWhenTheBodyIsThere() {
        Probe.ran(SIXTY + "\\def1").fault(4, SIXTY.length() + 5);
        Probe.ran(SIXTY + "\\def\\c}").fault(1, SIXTY.length() + 7);
        Probe.ran(SIXTY + "\\def\\c{#1}").fault(4, SIXTY.length() + 9);
        Probe.ran(SIXTY + "\\def\\c{1").fault(3, SIXTY.length() + 8);
        Probe.ran(SIXTY + "\\edef\\c{\\fi}").fault(1, SIXTY.length() + 11);
        // Made, though its name can't change: 60 changes are kept.
        Probe.ran(KEPT + "\\def\\z{1}").fault(5, KEPT.length() + 9).count(4, 3).meaning("z", 0);
        Probe.ran(KEPT + "\\edef\\z{1}").fault(5, KEPT.length() + 10).count(4, 3).meaning("z", 0);
        // While its own body is expanded, the name means what it meant before.
        Probe.ran("\\def\\a{1}\\edef\\a{\\a\\a}\\a").outs("11").count(4, 2).fine();
    }

    /** "The name means that macro in this group". */
    private static void inThisGroup() {
        for (String definer : new String[] {"\\def", "\\edef"}) {
            Probe.ran("{" + definer + "\\a{1}\\a}\\a").fault(2).outs("1").meaning("a", 0);
            Probe.ran("\\def\\a{2}{" + definer + "\\a{1}\\a{\\a}}\\a").outs("112").fine();
            Probe.ran("{" + definer + "\\fi{1}}\\iftrue\\fi").fine().count(3, 0);
        }
    }

    /** "with gdef in all groups (what is kept to be undone becomes that, too)". */
    private static void inAllGroups() {
        Probe.ran("{\\gdef\\a{1}\\a}\\a").outs("11").fine();
        Probe.ran("{\\def\\a{2}\\gdef\\a{1}\\a}\\a").outs("11").fine();
        Probe.ran("\\let\\a0{\\let\\a2{\\let\\a3\\gdef\\a{1}\\a}\\a}\\a").outs("111").fine();
        Probe.ran("{\\gdef\\a{1}\\let\\a2\\a}\\a").outs("21").fine();
        Probe.ran("{\\let\\a2\\gdef\\a{1}\\let\\a3\\a}\\a").outs("31").fine();
        Probe.ran("{{\\let\\a2\\gdef\\a{1}}\\let\\a3}\\a").outs("1").fine();
        // Of that name alone: others, and categories, come back.
        Probe.ran("\\let\\b0{\\let\\b1\\catcode!3\\gdef\\a{1}}\\b!").outs("0!").out(1, '!', OTHER).fine();
        Probe.ran("{\\let~0\\gdef\\~{1}}").activeMeaning("~", 0).meaning("~", 3).fine();
        // A category and a name of the same character are not the same.
        Probe.ran("{\\catcode!3\\gdef\\!{1}}!\\!").outs("!1").out(0, '!', OTHER).fine();
    }

    /** "let: a name is got (else fault 4), then a token". */
    private static void letGetsAName() {
        Probe.ran("\\let\\a1\\a").outs("1").fine();
        Probe.ran("\\let~1~").outs("1").fine();
        Probe.ran("\\let\\fi1\\fi").outs("1").fine();
        Probe.ran("\\let1").fault(4, 5);
        Probe.ran("\\let=").fault(4, 5);
        Probe.ran("\\let{").fault(4, 5).count(2, 0);
        Probe.ran("\\let").fault(3, 4);
        Probe.ran("\\let\\a").fault(3, 6);
        // Tokens are only got, not expanded.
        Probe.ran("\\def\\a{1}\\let\\b\\a\\def\\a{2}\\b").outs("1").fine();
        Probe.ran("\\let\\a\\fi\\let\\b}").fine().detail("a", 0, 18).detail("b", 0, '}' + 512);
    }

    /** "is that = of category 12, another one is got (just once; blanks are not passed)". */
    private static void letPassesOneEquals() {
        Probe.ran("\\let\\a=1\\a").outs("1").fine();
        Probe.ran("\\let\\a==\\a").outs("=").fine();
        Probe.ran("\\let\\a===\\a").outs("==").fine();
        Probe.ran("\\let\\a=").fault(3, 7);
        Probe.ran("\\let\\a= 1\\a").outs("1 ").detail("a", 0, 32 + 2560).fine();
        Probe.ran("\\let\\1 1\\1").outs("1 ").detail("1", 0, 32 + 2560).fine();
        Probe.ran("\\let\\1 =1\\1").outs("=1 ").fine();
        Probe.ran("\\catcode=11\\let\\a ==").detail("a", 0, '=' + 256 * 11).outs("=").fine();
        Probe.ran("\\catcode=03\\let\\a==").detail("a", 0, '=' + 256 * 3).outs("=").fine();
        // A name that means = is not that character.
        Probe.ran("\\let\\e==\\let\\a\\e1\\a").outs("1=").fine();
    }

    /** "The name means what the token means, in this group." */
    private static void letTakesTheMeaning() {
        Probe.ran("\\let\\a\\par").detail("a", 0, 1).fine();
        Probe.ran("\\let\\a\\x").meaning("a", 0).fine();
        Probe.ran("\\let\\a1\\let\\a\\x\\a").fault(2).meaning("a", 0);
        Probe.ran("\\let\\a1\\let\\b\\a\\let\\a2\\b").outs("1").fine();
        Probe.ran("\\def\\a#1{(#1)}\\let\\b\\a\\let\\a2\\b3").outs("(3)").fine();
        Probe.ran("\\let\\a\\a").meaning("a", 0).fine();
        Probe.ran("{\\let\\a1\\a}\\a").fault(2).outs("1");
        Probe.ran("\\let\\a0{\\let\\a1{\\let\\a2\\a}\\a}\\a").outs("210").fine();
    }

    /** "catcode: a token is got, a character, or a name of one character, also an active one, whatever it means (else fault 4)". */
    private static void catcodeOfCharactersAndNames() {
        Probe.ran("\\catcode!03").category('!', 3).fine();
        Probe.ran("\\catcode\\!03").category('!', 3).fine();
        Probe.ran("\\catcode~03").category('~', 3).fine();
        Probe.ran("\\catcode\\~03").category('~', 3).fine();
        Probe.ran("\\catcode{03").category('{', 3).fine().count(2, 0);
        Probe.ran("\\catcode}03").category('}', 3).fine();
        Probe.ran("\\catcode303").category('3', 3).fine();
        Probe.ran("\\catcode\\ 03").category(' ', 3).fine();
        Probe.ran("\\catcode\\\n03").category(10, 3).fine();
        Probe.ran("\\catcode\\\\03").category('\\', 3).fine();
        Probe.ran("\\catcode\\%03").category('%', 3).fine();
        Probe.ran("\\def\\c#1{\\catcode#103}\\c{ }").category(' ', 3).fine();
        // Whatever it means: nothing, a character, a command, a macro.
        Probe.ran("\\let\\a1\\catcode\\a3").category('a', 3).category('1', OTHER).fine();
        Probe.ran("\\let\\a\\fi\\catcode\\a3").category('a', 3).fine();
        Probe.ran("\\def\\a{1}\\catcode\\a3").category('a', 3).category('1', OTHER).fine();
        Probe.ran("\\def~{1}\\catcode~3").category('~', 3).fine();
        String[] wrong = {"\\ab", "\\par", "\\if", "\\fi", "\\expandafter", "\\abcdefghi", "\\abcdefghijk"};
        for (String name : wrong) {
            Probe.ran("\\catcode" + name + "3").fault(4, 8 + name.length());
            Probe.ran("\\catcode" + name).fault(4, 8 + name.length());
        }
        Probe.ran("\\let\\ab1\\catcode\\ab3").fault(4);
        Probe.ran("\\catcode%\n\n3").fault(4, 11);
        Probe.ran("\\catcode").fault(3, 8);
    }

    /** "and a digit of category 12 (else fault 4)". */
    private static void catcodeNeedsADigit() {
        for (int digit = 0; digit < 10; digit++) {
            Probe.ran("\\catcode!" + digit).category('!', digit).fine();
        }
        String[] wrong = {"x", "/", ":", " 3", "{", "\\x", "~", "-1", "\\par"};
        for (String text : wrong) {
            Probe.ran("\\catcode!" + text).fault(4).category('!', OTHER);
        }
        Probe.ran("\\catcode311\\catcode!3").fault(4, 21).category('!', OTHER);
        Probe.ran("\\let\\x3\\catcode!\\x").fault(4).category('!', OTHER);
        Probe.ran("\\def\\x{3}\\catcode!\\x").fault(4).category('!', OTHER);
        Probe.ran("\\catcode!").fault(3, 9);
        // A digit that string makes is of category 12.
        Probe.ran("\\catcode311\\expandafter\\catcode\\expandafter!\\string 3").category('!', 3).fine();
    }

    /** "then a token, if there is one; if it is such a digit, too, both are a number, else it is put back". */
    private static void catcodeOfTwoDigits() {
        for (int number = 0; number < 16; number++) {
            String digits = number < 10 ? "0" + number : "" + number;
            Probe.ran("\\catcode!" + digits).category('!', number).outs("").fine();
            Probe.ran("\\catcode!" + digits + "7").category('!', number).outs("7").fine();
        }
        Probe.ran("\\catcode!3").category('!', 3).fine();
        Probe.ran("\\catcode!3x").category('!', 3).outs("x").fine();
        Probe.ran("\\catcode!3 1").category('!', 3).outs(" 1").fine();
        Probe.ran("\\catcode!3\\x").category('!', 3).fault(2);
        Probe.ran("\\catcode!3/").category('!', 3).outs("/").fine();
        Probe.ran("\\catcode!3:").category('!', 3).outs(":").fine();
        Probe.ran("\\catcode211\\catcode!12").category('!', 1).outs("2").out(0, '2', 11).fine();
        Probe.ran("\\let\\x2\\catcode!1\\x").category('!', 1).outs("2").fine();
        Probe.ran("\\def\\x{2}\\catcode!1\\x").category('!', 1).outs("2").fine();
        // It is read with the old category, and a fault in reading it comes first.
        Probe.ran("\\catcode!3!!").out(0, '!', OTHER).out(1, '!', 3).fine();
        Probe.ran("\\catcode!3\\").fault(3, 11).category('!', OTHER);
        Probe.ran("\\catcode?15\\catcode!3?").fault(8, 22).category('!', OTHER);
        Probe.ran("\\catcode!3\\abcdefghijkl").fault(5, 23).category('!', OTHER);
    }

    /** "Of more than 15: fault 4." */
    private static void catcodeOfMoreThanFifteen() {
        Probe.ran("\\catcode!15").category('!', 15).fine();
        for (int number = 16; number < 100; number++) {
            Probe.ran("\\catcode!" + number).fault(4, 11).category('!', OTHER).count(1, 1);
        }
    }

    /** "The character has that category, in this group." */
    private static void catcodeInThisGroup() {
        Probe.ran("{\\catcode!03!}!").out(0, '!', 3).out(1, '!', OTHER).category('!', OTHER).fine();
        Probe.ran("\\catcode!03{\\catcode!04!{\\catcode!07!}!}!").out(0, '!', 4).out(1, '!', 7).out(2, '!', 4)
                .out(3, '!', 3).category('!', 3).fine();
        for (int c = 10; c < 127; c = c == 10 ? 32 : c + 1) {
            Probe.ran("\\catcode\\" + (char) c + "08").category(c, 8).fine();
            int before = new TokenMouth().category(c);
            if (c != '}') {
                Probe.ran("{\\catcode\\" + (char) c + "08}").category(c, before).fine();
            }
        }
    }

    /** "More than 60 changes kept to be undone: fault 5 (a change of a meaning or a category inside a group is kept, ..; one that can't be kept is not made)." */
    private static void moreThanSixtyChanges() {
        Probe.ran(KEPT).fine().count(2, 30).detail("x", 0, '1' + 256 * OTHER);
        Probe.ran(KEPT + "\\let\\z1").fault(5, KEPT.length() + 7).meaning("z", 0);
        Probe.ran(KEPT + "\\catcode!03").fault(5, KEPT.length() + 11).category('!', OTHER);
        Probe.ran(KEPT + "\\let~1").fault(5, KEPT.length() + 6).activeMeaning("~", 0);
        Probe.ran(KEPT + "\\def\\z{}").fault(5, KEPT.length() + 8).meaning("z", 0);
        Probe.ran(KEPT + "\\edef\\z{}").fault(5, KEPT.length() + 9).meaning("z", 0);
        Probe.ran(KEPT + "\\csname z\\endcsname").fault(5, KEPT.length() + 19).meaning("z", 0);
        Probe.ran(KEPT + "\\let\\fi1").fault(5, KEPT.length() + 8).detail("fi", 0, 18);
        // One that changes nothing is kept, too.
        Probe.ran(KEPT + "\\let\\z\\z").fault(5);
        Probe.ran(KEPT + "\\csname x\\endcsname").outs("1").fine();
        // A group that is closed gives its two back.
        Probe.ran(KEPT + "}\\let\\z1\\catcode!03!\\z").outs("!1").fault(0).count(2, 29);
        Probe.ran(KEPT + "}\\let\\z1\\catcode!3\\let\\w1").fault(5).meaning("w", 0).category('!', 3);
        Probe.ran(KEPT + "}{\\let\\z1\\let\\w1\\let\\v1").fault(5).meaning("w", 2).meaning("v", 0);
        // Three in each of 20 groups, a category among them.
        String three = "\\let\\o={\\def\\b{\\o\\let\\x1\\let\\y2\\catcode!3}\\def\\c{\\b\\b\\b\\b\\b}\\c\\c\\c\\c";
        Probe.ran(three).fine().count(2, 20).category('!', 3);
        Probe.ran(three + "\\let\\z1").fault(5).meaning("z", 0);
        Probe.ran(three + "{\\catcode!4").fault(5).category('!', 3);
        Probe.ran(three + "}\\catcode!4").fine().category('!', 4);
        // When all groups are closed, all is as it was.
        Probe.ran(three + Probe.times(20, "}")).fine().count(2, 0).category('!', OTHER).meaning("x", 0).meaning("y", 0);
    }

    /** "and for the second one of the same in the same group". */
    private static void keptOncePerGroup() {
        Probe.ran(KEPT + "\\let\\x3\\let\\x4\\def\\y{5}\\x\\y").outs("45").fine();
        Probe.ran(KEPT + "\\let\\x3}\\x").outs("1").fine().count(2, 29);
        // In the next group it is kept anew.
        Probe.ran(KEPT + "}\\let\\x3{\\let\\x4\\let\\y4\\let\\z4").fault(5).detail("y", 0, '4' + 256 * OTHER).meaning("z", 0);
        Probe.of("{\\def\\a{\\let\\x1\\let\\x2\\catcode!3\\a}\\a").run(500, 0).fault(0);
        // A name and an active one, and a category of the same character, are three.
        Probe.ran(KEPT + "}\\let~1\\let\\~1\\catcode~3").fault(5).category('~', 13).meaning("~", 2).activeMeaning("~", 2);
    }

    /** "but by gdef". */
    private static void notKeptByGdef() {
        Probe.ran(KEPT + "\\gdef\\z{1}\\gdef\\w{2}\\z\\w").outs("12").fine();
        Probe.ran(KEPT + "\\gdef\\x{3}\\x").outs("3").fine();
        Probe.ran(KEPT + "\\gdef\\x{3}" + Probe.times(30, "}") + "\\x").outs("3").fine();
        // What gdef changed is kept when let changes it in that group.
        Probe.ran(KEPT + "\\gdef\\z{1}\\let\\z2").fault(5).meaning("z", 3);
    }

    /** "a change .. inside a group is kept": outside of all groups none is. */
    private static void notKeptOutsideOfGroups() {
        Probe.of("\\def\\a{\\let\\x1\\let\\y2\\catcode!3\\a}\\a").run(500, 0).run(500, 0).fault(0);
        Probe.ran(KEPT + Probe.times(30, "}") + "\\let\\z1\\z").outs("1").fine();
        Probe.of("\\def\\a{{\\let\\x1\\let\\y2\\catcode!3}\\a}\\a").run(500, 0).run(500, 0).fault(0);
    }

    /** "A fault ends the run; what was done before it stays." */
    private static void faultEndsTheRun() {
        String text = "1{\\def\\a{2}\\let\\b3\\catcode!4\\iftrue\\x4";
        Probe probe = Probe.ran(text).fault(2, text.length() - 1).outs("1").count(0, 1).count(2, 1).count(3, 1).count(4, 1);
        probe.meaning("a", 3).meaning("b", 2).category('!', 4);
        probe.run(1, Probe.STATE).run(500, Probe.STATE).fault(2, text.length() - 1).outs("1").refuses("5");
        // Within the step of the fault, too: names and conditionals.
        Probe.ran("\\csname a\\csname b\\endcsname").fault(4).meaning("b", 1).meaning("a", 0);
        Probe.ran("\\edef\\a{\\csname b\\endcsname\\iftrue\\fi\\fi}").fault(1).meaning("b", 1).meaning("a", 0).count(4, 0);
    }
}
