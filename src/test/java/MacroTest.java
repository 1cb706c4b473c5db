/** Definitions of macros, their arguments and their expansion: promises 5, 6 and 11. */
public final class MacroTest {
    public static void main(String[] args) {
        definitions();
        faultyDefinitions();
        bodies();
        expandedBodies();
        undelimitedArguments();
        delimitedArguments();
        faultyArguments();
        Probe.end();
    }

    private static void definitions() {
        Probe.ran("\\def\\a{xy}\\a\\a").outs("xyxy").fine().count(1, 7).count(4, 1);
        Probe.ran("\\def\\fi{x}\\fi").outs("x").meaning("fi", 3).fine();
        Probe.ran("\\def~{x}~").outs("x").activeMeaning("~", 3).meaning("~", 0).fine();
        Probe.ran("\\expandafter\\def\\noexpand\\fi{x}\\fi").outs("x").fine();
        Probe.ran("\\def\\a#1{#1#1}\\a x\\a{yz}").outs("xxyzyz").fine();
        Probe.ran("\\def\\a#1#2#3#4{#4#3#2#1}\\a wxyz").outs("zyxw").fine();
        Probe.ran("\\let\\d=\\def\\d\\a{x}\\a").outs("x").fine();
        // The digit of a parameter may be of any category, and of a name nothing but the name counts.
        Probe.ran("\\catcode103\\def\\a#1{#1}\\a x").outs("x").fine();
        Probe.ran("\\catcode101\\def\\a#1{#1}\\a x").outs("x").fine();
        Probe.ran("\\catcode102\\def\\a#1{#1}\\a x").outs("x").fine();
        Probe.ran("\\catcode106\\def\\a#1{#1}").detail("a", 0, 1).detail("a", 2, 1).detail("a", 3, '1' + 6 * 256).fine();
        Probe.ran("\\catcode!6\\def\\a!1{!1#1!#}\\a x").outs("xx#").out(2, '#', 6).fine();
    }

    private static void faultyDefinitions() {
        Probe.ran("\\def x{}").fault(4, 6);
        Probe.ran("\\def{}").fault(4, 5);
        Probe.ran("\\def").fault(3, 4);
        Probe.ran("\\def\\a").fault(3, 6);
        Probe.ran("\\def\\a x").fault(3, 8);
        Probe.ran("\\def\\a}").fault(1, 7);
        Probe.ran("\\def\\a#").fault(3, 7);
        Probe.ran("\\def\\a#2{}").fault(4, 8);
        Probe.ran("\\def\\a#1#1{}").fault(4, 10);
        Probe.ran("\\def\\a#1#2#3#4#5{}").fault(4, 16);
        Probe.ran("\\def\\a#{}").fault(4, 8);
        Probe.ran("\\def\\a##{}").fault(4, 8);
        Probe.ran("\\def\\a#x{}").fault(4, 8);
        Probe.ran("\\let\\x1\\def\\a#\\x{}").fault(4, 16);
        Probe.ran("\\def\\a{x").fault(3, 8).count(4, 0);
        Probe.ran("\\def\\a{{x}").fault(3, 10);
        Probe.ran("\\def\\a{#").fault(3, 8);
        Probe.ran("\\def\\a{#1}").fault(4, 9).count(4, 0).meaning("a", 0);
        Probe.ran("\\def\\a#1{#2}").fault(4, 11);
        Probe.ran("\\def\\a#1{#0}").fault(4, 11);
        Probe.ran("\\def\\a#1{#}}").fault(4, 11);
        Probe.ran("\\let\\x1\\def\\a#1{#\\x}").fault(4, 19);
        // A name that means a brace is none.
        Probe.ran("\\let\\o={\\def\\a\\o{x}").fine().detail("a", 1, 1).detail("a", 2, 1);
        Probe.ran("\\let\\o={\\let\\c=}\\def\\a{\\c\\o}").fine().detail("a", 2, 2);
    }

    private static void bodies() {
        Probe.ran("\\def\\a{{x}}\\a").outs("x").detail("a", 2, 3).fine();
        Probe.ran("\\def\\a#1{\\def\\b##1{#1##1}}\\a x\\b y").outs("xy").fine();
        Probe.ran("\\def\\a{##}\\a").outs("#").out(0, '#', 6).fine();
        Probe.ran("\\catcode!6\\def\\a{#!!#}\\a").outs("!#").out(0, '!', 6).fine();
        Probe.ran("\\def\\a#1{(#1)}\\a{}").outs("()").fine();
        Probe.ran("\\def\\a{\\undefd}").fine().meaning("a", 3);
    }

    private static void expandedBodies() {
        Probe.ran("\\def\\a{x}\\edef\\b{\\a\\a}\\def\\a{y}\\b").outs("xx").detail("b", 2, 2).fine();
        Probe.ran("\\def\\a{x}\\edef\\b{\\noexpand\\a}\\def\\a{y}\\b").outs("y").detail("b", 3, 4096).fine();
        Probe.ran("\\edef\\b#1{<#1>}\\b x").outs("<x>").fine();
        // Only the body is got expanded, not the name nor the text.
        Probe.ran("\\def\\a{x}\\edef\\a\\a{y}\\a\\a").outs("y").fine();
        // Braces and category 6 that come by expansion count.
        Probe.ran("\\def\\h{##}\\edef\\b{\\h\\h}").detail("b", 2, 1).detail("b", 3, '#' + 6 * 256).fine();
        Probe.ran("\\def\\h{##}\\def\\i{1}\\edef\\b#1{\\h\\i}").detail("b", 2, 1).detail("b", 3, 4097).fine();
        Probe.ran("\\def\\h{##}\\edef\\b{\\h x}").fault(4);
        Probe.ran("\\def\\g{{x}}\\edef\\b{\\g}").detail("b", 2, 3).fine();
        Probe.ran("\\edef\\b{\\string}}").detail("b", 2, 1).detail("b", 3, '}' + 12 * 256).fine();
        Probe.ran("\\edef\\b{\\iftrue x\\else y\\fi}").detail("b", 2, 1).detail("b", 3, 'x' + 11 * 256).fine();
        Probe.ran("\\edef\\b{\\csname q\\endcsname}").detail("b", 3, 4096).meaning("q", 1).detail("q", 0, 2).fine();
        Probe.ran("\\edef\\b{\\undefd\\relax\\def}").detail("b", 2, 3).fine();
        Probe.ran("\\edef\\b{\\else}").fault(1);
        Probe.ran("\\edef\\b{\\iffalse}").fault(3, 17).count(3, 1);
    }

    private static void undelimitedArguments() {
        Probe.ran("\\def\\a#1{(#1)}\\a   x").outs("(x)").fine();
        Probe.ran("\\def\\a#1#2{(#1,#2)}\\a x y").outs("(x,y)").fine();
        Probe.ran("\\def\\a#1#2{(#1,#2)}\\a{x}  {y z}").outs("(x,y z)").fine();
        Probe.ran("\\def\\a#1{(#1)}\\a{{x}}").outs("(x)").count(1, 7).fine();
        Probe.ran("\\def\\a#1{\\string#1}\\a\\relax").outs("\\relax").fine();
        Probe.ran("\\catcode\\ 12\\def\\a#1{(#1)}\\a{ }\\a .").outs("( )( ).").fine();
        Probe.ran("\\let\\o={\\def\\a#1{\\string#1}\\a\\o x").outs("\\ox").fine();
        Probe.ran("\\let\\b= \\def\\a#1{(\\string#1)}\\a\\b").outs("(\\b)").fine();
        // What \string makes of a blank is a blank that is passed.
        Probe.ran("\\def\\a#1{(#1)}\\catcode\\ 12\\expandafter\\a\\string x").outs("(x)").fine();
    }

    private static void delimitedArguments() {
        Probe.ran("\\def\\a#1.{(#1)}\\a.\\a x.\\a{x}.\\a{x}y.").outs("()(x)(x)(xy)").fine();
        Probe.ran("\\def\\a#1.{\\def\\b{#1}}\\a{x}{y}.").detail("b", 2, 6).fine();
        Probe.ran("\\def\\a#1.{\\def\\b{#1}}\\a{{x}}.").detail("b", 2, 3).fine();
        Probe.ran("\\def\\a#1.{\\def\\b{#1}}\\a{}.").detail("b", 2, 0).fine();
        Probe.ran("\\def\\a#1.{\\def\\b{#1}}\\a {x}.").detail("b", 2, 1).fine();
        Probe.ran("\\def\\a#1.{\\def\\b{#1}}\\a{x} .").detail("b", 2, 4).fine();
        Probe.ran("\\def\\a#1.{(#1)}\\a{x.y}.").outs("(x.y)").fine();
        // The first place where they stand, though they overlap with what came before.
        Probe.ran("\\def\\a#1aab{(#1)}\\a aaab").outs("(a)").fine();
        Probe.ran("\\def\\a#1aba{(#1)}\\a ababa.").outs("()ba.").fine();
        Probe.ran("\\def\\a#1ab{(#1)}\\a a{}ab").outs("(a)").fine();
        Probe.ran("\\def\\a#1ab{(#1)}\\a{a}bab").outs("(ab)").fine();
        Probe.ran("\\def\\a#1.#2,{(#2#1)}\\a x.y,z").outs("(yx)z").fine();
        Probe.ran("\\def\\a#1.#2{(#2#1)}\\a x. y").outs("(yx)").fine();
        Probe.ran("\\def\\a#1#2.{(#1,#2)}\\a  x y.").outs("(x, y)").fine();
        Probe.ran("\\def\\a#1 #2.{(#1,#2)}\\a x y.").outs("(x,y)").fine();
        // Tokens in front of the first parameter, and names whatever they mean.
        Probe.ran("\\def\\a.,#1{(#1)}\\a.,x").outs("(x)").fine();
        Probe.ran("\\def\\a.,{y}\\a.,").outs("y").fine();
        Probe.ran("\\def\\a\\x#1\\fi{(#1)}\\a\\x\\relax 1\\fi").outs("(1)").fine();
        Probe.ran("\\def\\a#1\\par{(#1)}\\a x\n\ny").outs("(x )y").fine();
        Probe.ran("\\def\\a#1\\par!{(#1)}\\a x\n\ny{\\par}\\par!").outs("(x |y|)").fine();
        // A marked name is the same name, and unmarked in an argument.
        Probe.ran("\\def\\x{y}\\def\\a#1\\x{(#1)}\\expandafter\\a\\noexpand\\x").outs("()").fine();
        Probe.ran("\\def\\x{y}\\def\\a#1{(#1)}\\expandafter\\a\\noexpand\\x").outs("(y)").fine();
        Probe.ran("\\def\\x{y}\\def\\a\\x{z}\\expandafter\\a\\noexpand\\x").outs("z").fine();
    }

    private static void faultyArguments() {
        Probe.ran("\\def\\a.{}\\a,").fault(6, 12);
        Probe.ran("\\def\\a.{}\\a").fault(3, 11);
        Probe.ran("\\def\\a.{}\\catcode.03\\a.").fault(6);
        Probe.ran("\\def\\a\\x{}\\let\\y=\\x\\a\\y").fault(6);
        Probe.ran("\\def\\a~{}\\a\\~").fault(6);
        Probe.ran("\\def\\a\\par{}\\a\n\n\\relax").fine();
        Probe.ran("\\def\\a#1{}\\a").fault(3, 12);
        Probe.ran("\\def\\a#1{}\\a   ").fault(3, 15);
        Probe.ran("\\def\\a#1{}\\a}").fault(1, 13);
        Probe.ran("\\def\\a#1{}\\a{x").fault(3, 14);
        Probe.ran("\\def\\a#1.{}\\a x}").fault(1, 16);
        Probe.ran("\\def\\a#1.{}\\a{x}}.").fault(1, 17);
        Probe.ran("\\def\\a#1.{}\\a{x.").fault(3, 16);
        Probe.ran("\\def\\a#1{}\\a\\par").fault(7, 16);
        Probe.ran("\\def\\a#1{}\\a{\\par}").fault(7, 17);
        Probe.ran("\\def\\a#1{}\\let\\p=\\par\\a\\p").fine();
        Probe.ran("\\def\\a#1{}\\let\\par=\\relax\\a\\par").fault(7);
        Probe.ran("\\def\\par{}\\def\\a#1{}\\expandafter\\a\\noexpand\\par").fault(7);
        Probe.ran("\\def\\a#1#2\\par{}\\a\\par\\par").fault(7, 22);
        Probe.ran("\\def\\a#1.#2\\par{}\\a x\\par.").fault(7);
    }
}
