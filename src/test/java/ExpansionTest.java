/** The expandable commands and conditionals: promises 5, 6 and 8. */
public final class ExpansionTest {
    public static void main(String[] args) {
        expandafter();
        noexpand();
        string();
        csname();
        simpleConditionals();
        ifs();
        ifxs();
        passing();
        Probe.end();
    }

    private static void expandafter() {
        Probe.ran("\\def\\a{xy}\\expandafter\\string\\a").outs("xy").fine();
        Probe.ran("\\expandafter\\string\\relax").outs("\\relax").fine();
        Probe.ran("\\def\\a#1{(#1)}\\def\\b{xy}\\expandafter\\a\\b\\a\\b").outs("(x)y(xy)").fine();
        Probe.ran("\\expandafter").fault(3, 12);
        Probe.ran("\\expandafter x").fault(3, 14);
        Probe.ran("\\expandafter x\\iftrue y\\fi").outs("xy").count(3, 0).fine();
        Probe.ran("\\expandafter x\\fi").fault(1).count(1, 1);
        Probe.ran("\\expandafter{\\def\\a{1}\\a}\\relax").outs("1").fine();
    }

    private static void noexpand() {
        Probe.ran("\\def\\a{x}\\noexpand\\a\\a").outs("x").count(1, 5).fine();
        Probe.ran("\\noexpand x\\noexpand").fault(3).outs("x");
        Probe.ran("\\noexpand\\undefd").fault(2).count(1, 2);
        Probe.ran("\\noexpand\\par").outs("|").fine();
        Probe.ran("\\noexpand\\fi\\noexpand\\else\\noexpand\\iftrue").fine().count(1, 6).count(3, 0);
        // The mark stays through being put back, and makes the name mean relax.
        Probe.ran("\\def\\a{x}\\expandafter\\noexpand\\noexpand\\a").outs("").fine();
        Probe.ran("\\def\\a{x}\\expandafter\\expandafter\\expandafter\\relax\\noexpand\\a").outs("").fine();
        Probe.ran("\\def\\a{x}\\expandafter\\let\\expandafter\\b\\noexpand\\a").detail("b", 0, 2).fine();
        Probe.ran("\\def\\a{x}\\expandafter\\ifx\\noexpand\\a\\relax y\\fi").outs("y").fine();
        Probe.ran("\\def\\a{x}\\if\\noexpand\\a\\relax y\\fi").outs("y").fine();
        Probe.ran("\\expandafter\\iffalse\\noexpand\\fi x\\fi y").outs("y").fine();
        Probe.ran("\\expandafter\\iffalse\\noexpand\\iftrue x\\fi y").outs("y").fine();
        Probe.ran("\\expandafter\\iffalse\\noexpand\\else x\\fi y").outs("y").fine();
        Probe.ran("\\def\\a{x}\\csname\\noexpand\\a\\endcsname").fault(4);
        Probe.ran("\\def\\a{x}\\expandafter\\string\\noexpand\\a").outs("\\a").fine();
        Probe.ran("\\def\\a{x}\\expandafter\\def\\noexpand\\a{y}\\a").outs("y").fine();
        Probe.ran("\\def~{x}\\expandafter\\catcode\\noexpand~12~").outs("~").fine();
        Probe.ran("\\def\\a{x}\\expandafter\\def\\expandafter\\b\\noexpand\\a{y}\\b\\a").outs("y").fine();
        Probe.ran("\\def\\a{x}\\expandafter\\catcode\\string!1\\noexpand\\a\\a").outs("x").category('!', 1).fine();
    }

    private static void string() {
        Probe.ran("\\string\\abc\\string a\\string{\\string\\fi").outs("\\abca{\\fi").out(0, '\\', 12).out(1, 'a', 12)
                .out(4, 'a', 12).out(5, '{', 12).fine();
        Probe.ran("\\string~\\string\\~").outs("~\\~").out(0, '~', 12).fine();
        Probe.ran("\\string\\ x").outs("\\ x").out(1, ' ', 10).fine();
        Probe.ran("a\\catcode\\ 13\\string x\\string ").outs("a x ").out(1, ' ', 10).out(3, ' ', 10).fine();
        Probe.ran("\\catcode\\ 11\\string. ").outs(". ").out(1, ' ', 11).fine();
        Probe.ran("\\string\\\n").outs("\\\n").out(1, 10, 12).fine();
        Probe.ran("\\string\n").outs("").fault(3, 8);
        Probe.ran("\\string\n\n").outs("\\par").fine();
        Probe.ran("\\string\\expandafter").outs("\\expandafter").out(11, 'r', 12).fine();
        Probe.ran("\\string\\abcdefghi").outs("\\abcdefghi").fine();
        Probe.ran("\\string").fault(3, 7);
        Probe.ran("\\catcode|00|string|a").outs("\\a").fine();
    }

    private static void csname() {
        Probe.ran("\\def\\ab{x}\\csname ab\\endcsname").outs("x").fine();
        Probe.ran("\\def\\a{b}\\def\\bb{x}\\csname\\a\\a\\endcsname").outs("x").fine();
        Probe.ran("\\csname q\\endcsname").outs("").detail("q", 0, 2).fine().count(1, 2);
        Probe.ran("{\\csname q\\endcsname\\let\\r=\\q\\ifx\\r\\relax x\\fi}").outs("x").meaning("q", 0).fine();
        Probe.ran("\\csname q\\endcsname\\q").fine();
        Probe.ran("\\let\\q=x\\csname q\\endcsname").outs("x").fine();
        Probe.ran("\\csname~\\endcsname").fault(4);
        Probe.ran("\\csname\\string~\\endcsname").activeMeaning("~", 0).detail("~", 0, 2).fine();
        Probe.ran("\\csname a b{}#\\endcsname").detail("a b{}#", 0, 2).fine().count(2, 0);
        Probe.ran("\\csname fi\\endcsname").fault(1, 20).count(1, 2);
        Probe.ran("\\csname\\endcsname").fault(4, 17);
        Probe.ran("\\csname abcdefghijk\\endcsname").fine().count(1, 2);
        Probe.ran("\\csname abcdefghijkl\\endcsname").fault(5, 20);
        Probe.ran("\\csname abcdefghijk\\relax").fault(4, 25);
        Probe.ran("\\csname a").fault(3, 9);
        Probe.ran("\\csname a\\undefd").fault(4);
        Probe.ran("\\csname a\\par").fault(4);
        Probe.ran("\\let\\x=a\\csname\\x\\endcsname").fault(4);
        Probe.ran("\\let\\e=\\endcsname\\csname q\\e").detail("q", 0, 2).fine();
        Probe.ran("\\endcsname").fault(1, 10);
        Probe.ran("\\def\\b{c}\\csname a\\csname b\\endcsname d\\endcsname").detail("acd", 0, 2).fine();
        Probe.ran("\\def\\par{x}\\csname par\\endcsname").outs("x").fine();
        Probe.ran("\\csname expandafter\\endcsname\\string\\iftrue x\\fi").out(0, 'x', 12).outs("x").fine();
        Probe.ran("\\def\\abcdefghijk{x}\\csname abcdefghijk\\endcsname").outs("x").fine();
        Probe.ran("\\def\\Abcdefghijk{x}\\csname abcdefghijk\\endcsname").outs("").fine();
        Probe.ran("\\def\\bcdefghi{x}\\csname abcdefghi\\endcsname").outs("").fine();
    }

    private static void simpleConditionals() {
        Probe.ran("\\iftrue x\\else y\\fi z").outs("xz").count(3, 0).fine();
        Probe.ran("\\iffalse x\\else y\\fi z").outs("yz").count(3, 0).fine();
        Probe.ran("\\iffalse x\\fi z").outs("z").fine();
        Probe.ran("\\iftrue\\fi\\iffalse\\fi").outs("").count(1, 3).fine();
        Probe.ran("\\fi").fault(1, 3).count(1, 1);
        Probe.ran("\\else").fault(1, 5);
        Probe.ran("\\iftrue\\fi\\fi").fault(1);
        Probe.ran("\\iffalse\\else\\else").fault(1).count(3, 1);
        Probe.ran("\\iftrue x\\else y").fault(3).outs("x").count(3, 1);
        Probe.ran("\\iftrue\\else\\else x\\fi y").outs("y").fine();
        Probe.ran("\\iftrue{\\fi}").count(2, 0).count(3, 0).fine();
        Probe.ran("\\let\\x=\\iftrue\\let\\y=\\fi\\x a\\y").outs("a").count(3, 0).fine();
    }

    private static void ifs() {
        Probe.ran("\\if aax\\else y\\fi").outs("x").fine();
        Probe.ran("\\if abx\\else y\\fi").outs("y").fine();
        Probe.ran("\\catcode!03\\let\\x=!\\catcode!12\\if\\x!y\\fi").outs("y").fine();
        Probe.ran("\\if\\relax\\undefd y\\fi\\if\\par\\endcsname z\\fi").outs("yz").fine();
        Probe.ran("\\if\\relax a\\else n\\fi").outs("n").fine();
        Probe.ran("\\def\\a{xx}\\if\\a y\\fi").outs("y").fine();
        Probe.ran("\\def\\a{xxz}\\if\\a y\\fi").outs("zy").fine();
        Probe.ran("\\if a").fault(3).count(3, 1);
        Probe.ran("\\if\\fi").fault(1).count(3, 1);
        Probe.ran("\\if a\\else").fault(1).count(3, 1);
        Probe.ran("\\iftrue\\if a\\fi").fault(1).count(3, 2);
        // Conditionals inside of the test: what they leave open is gone.
        Probe.ran("\\if\\iftrue a\\else b\\fi ax\\fi y").outs("xy").count(3, 0).fine();
        Probe.ran("\\if\\iffalse a\\else b\\fi bx\\fi y").outs("xy").count(3, 0).fine();
        Probe.ran("\\if\\iftrue\\iftrue aax\\fi y").outs("xy").count(3, 0).fine();
        Probe.ran("\\if\\iftrue aax").outs("x").count(3, 1).fine();
        Probe.ran("\\if\\iftrue abx\\else y\\fi z").outs("yz").count(3, 0).fine();
        Probe.ran("\\if\\iftrue ab").fault(3).count(3, 1);
        Probe.ran("\\if\\if aaab\\fi bx\\fi").outs("bx").fault(1);
        Probe.ran("\\if\\if aaab\\else\\fi x\\fi y").outs("x").fault(1).count(3, 0);
    }

    private static void ifxs() {
        Probe.ran("\\ifx aax\\fi\\ifx abz\\else y\\fi").outs("xy").fine();
        Probe.ran("\\catcode!03\\let\\x=!\\catcode!12\\ifx\\x!y\\else n\\fi").outs("n").fine();
        Probe.ran("\\let\\x=a\\ifx\\x ay\\fi").outs("y").fine();
        Probe.ran("\\ifx\\undefd\\undefe y\\fi\\ifx\\undefd\\relax n\\fi").outs("y").fine();
        Probe.ran("\\let\\x=\\fi\\ifx\\x\\fi y\\fi\\ifx\\fi\\else n\\fi").outs("y").count(3, 0).fine();
        Probe.ran("\\def\\a#1.{x#1}\\def\\b#1.{x#1}\\ifx\\a\\b y\\fi").outs("y").fine();
        Probe.ran("\\def\\a#1.{x#1}\\def\\b#1,{x#1}\\ifx\\a\\b y\\else n\\fi").outs("n").fine();
        Probe.ran("\\def\\a#1{x#1}\\def\\b#1{y#1}\\ifx\\a\\b y\\else n\\fi").outs("n").fine();
        Probe.ran("\\def\\a{x}\\def\\b{xx}\\ifx\\a\\b y\\else n\\fi").outs("n").fine();
        Probe.ran("\\def\\a{x}\\edef\\b{\\a}\\ifx\\a\\b y\\else n\\fi").outs("y").fine();
        Probe.ran("\\def\\a{\\x}\\def\\b{\\y}\\ifx\\a\\b y\\else n\\fi").outs("n").fine();
        Probe.ran("\\def\\a{}\\ifx\\a\\relax y\\else n\\fi").outs("n").fine();
        Probe.ran("\\def\\a{x}\\ifx\\a xy\\else n\\fi").outs("n").fine();
        Probe.ran("\\ifx a").fault(3).count(3, 1);
        Probe.ran("\\let\\a=\\iftrue\\ifx\\a\\iftrue y\\fi").outs("y").count(3, 0).fine();
    }

    private static void passing() {
        Probe.ran("\\iffalse\\iftrue\\else\\fi x\\else y\\fi").outs("y").fine();
        Probe.ran("\\iffalse\\ifx\\if\\fi\\fi x\\fi y").outs("y").fine();
        Probe.ran("\\iftrue x\\else\\iffalse\\else\\fi\\else y\\fi z").outs("xz").fine();
        Probe.ran("\\iffalse{{\\else}\\fi").fault(1).count(3, 1);
        Probe.ran("\\iffalse\\undefd#1}\\fi x").outs("x").fine();
        Probe.ran("\\let\\x=\\fi\\iffalse a\\x b").outs("b").count(3, 0).fine();
        Probe.ran("\\let\\x=\\if\\iffalse\\x\\fi a\\fi b").outs("b").fine();
        Probe.ran("\\let\\fi=\\relax\\iffalse\\fi").fault(3).count(3, 1);
        Probe.ran("\\def\\a{\\fi}\\iffalse\\a x\\fi y").outs("y").fine();
        Probe.ran("\\iffalse\\abcdefghijkl").fault(5, 21);
        Probe.ran("\\def\\a#1{#1\\fi}\\iftrue\\a{x\\else y}z").outs("xz").count(3, 0).fine();
    }
}
