/** The terms about conditionals, sentence by sentence. */
public final class ConditionalSentencesTest {
    private static final String[] OPENERS = {"\\iftrue", "\\iffalse", "\\if", "\\ifx"};

    public static void main(String[] args) {
        twelveAtMost();
        iftrueAndIffalse();
        ifOfCodes();
        ifGetsExpanded();
        elseOrFiWhileTesting();
        ifxOfMeanings();
        ifxOfMacros();
        leftOpenAreGone();
        heldIsInItsFirstPart();
        passedNotExpanded();
        passedByDepth();
        passedUpToElseOrFi();
        elseInTheFirstPart();
        elsePassesUpToFi();
        fiInOneOfTheParts();
        Probe.end();
    }

    /** "iftrue, iffalse, if, ifx open a CONDITIONAL, a testing one at first (12 at most, else fault 5)." */
    private static void twelveAtMost() {
        String eleven = Probe.times(11, "\\iftrue");
        Probe.ran(eleven + "\\iftrue").fine().count(3, 12);
        for (String opener : OPENERS) {
            String twelve = eleven + "\\iftrue" + opener;
            Probe.ran(twelve + "11").fault(5, twelve.length()).count(3, 12).count(1, 13);
        }
        Probe.ran(eleven + "\\iffalse\\else").fine().count(3, 12);
        Probe.ran(eleven + "\\if11").fine().count(3, 12);
        Probe.ran(eleven + "\\ifx11").fine().count(3, 12);
        Probe.ran(eleven + "\\iffalse\\fi\\iftrue").fine().count(3, 12);
        // Testing ones count: twelve of them, and one more.
        Probe.ran(Probe.times(12, "\\if")).fault(3, 36).count(3, 12).count(1, 1);
        Probe.ran(Probe.times(13, "\\if")).fault(5, 39).count(3, 12).count(1, 1);
        Probe.ran(eleven + "\\if\\iftrue").fault(5, 87).count(3, 12);
        // A testing one that waits for its tokens is open.
        Probe.ran("\\if").fault(3, 3).count(3, 1);
        Probe.ran("\\ifx1").fault(3, 5).count(3, 1);
        // Those that are passed are not opened.
        Probe.ran("\\iffalse" + Probe.times(20, "\\if") + Probe.times(21, "\\fi")).fine().count(3, 0);
    }

    /** "iftrue holds; iffalse does not". */
    private static void iftrueAndIffalse() {
        Probe.ran("\\iftrue1\\else2\\fi3").outs("13").fine().count(3, 0);
        Probe.ran("\\iffalse1\\else2\\fi3").outs("23").fine().count(3, 0);
        Probe.ran("\\iftrue\\fi\\iffalse\\fi1").outs("1").fine().count(3, 0);
    }

    /** "if: two tokens ..: holds if their codes are the same: a token that means a character has the code of that, all others (endcsname, too) one and the same other code". */
    private static void ifOfCodes() {
        Probe.ran("\\if11y\\else n\\fi").outs("y").fine();
        Probe.ran("\\if12y\\else n\\fi").outs("n").fine();
        Probe.ran("\\if aAy\\else n\\fi").outs("n").fine();
        // Codes that differ in one bit alone are different.
        for (int bit = 1; bit < 64; bit = 2 * bit) {
            Probe.ran("\\if@" + (char) ('@' ^ bit) + "y\\fi.").outs(".").fine();
        }
        Probe.ran("\\if0" + (char) ('0' ^ 64) + "y\\fi.").outs(".").fine();
        // The category does not matter.
        Probe.ran("\\def\\a{!}\\catcode!03\\if\\a!y\\else n\\fi").outs("y").fine();
        Probe.ran("\\let\\a1\\if\\a1y\\else n\\fi").outs("y").fine();
        Probe.ran("\\let\\a1\\let\\b2\\if\\a\\b y\\else n\\fi").outs("n").fine();
        Probe.ran("\\if{\\string{y\\else n\\fi").outs("y").fine().count(2, 0);
        String[] others = {"\\relax", "\\par", "\\def", "\\gdef", "\\edef", "\\let", "\\catcode", "\\endcsname", "\\x",
            "~", "\\noexpand\\fi", "\\noexpand\\string"};
        for (String one : others) {
            for (String other : others) {
                Probe.ran("\\if" + one + other + " y\\else n\\fi").outs(other.equals("~") ? " y" : "y").fine();
            }
            Probe.ran("\\if" + one + "1\\else n\\fi\\if1" + one + "\\else n\\fi").outs("nn").fine();
        }
        // No character has that other code: those of the lowest and of the highest code.
        Probe.ran("\\catcode\\\n12\\if\\relax\n\\else n\\fi\\catcode~12\\if\\relax~\\else n\\fi").outs("nn").fine();
    }

    /** "two tokens are got expanded". */
    private static void ifGetsExpanded() {
        Probe.ran("\\def\\a{11}\\if\\a y\\else n\\fi").outs("y").fine();
        Probe.ran("\\def\\a{}\\if\\a\\a1\\a1y\\else n\\fi").outs("y").fine();
        Probe.ran("\\def\\a{12}\\if\\a y\\else n\\fi").outs("n").fine();
        Probe.ran("\\def\\a{112}\\if\\a y\\else n\\fi").outs("2y").fine();
        Probe.ran("\\if\\string1\\string1y\\fi").outs("y").fine();
        Probe.ran("\\if\\if11\\if11a\\fi\\fi ay\\fi").outs("y").fine().count(3, 0);
        Probe.ran("\\if1").fault(3, 4).count(3, 1);
    }

    /** "else or fi come while it is testing: fault 1". */
    private static void elseOrFiWhileTesting() {
        Probe.ran("\\if\\fi").fault(1, 6).count(3, 1).count(1, 1);
        Probe.ran("\\if\\else").fault(1, 8).count(3, 1);
        Probe.ran("\\if1\\fi").fault(1, 7).count(3, 1);
        Probe.ran("\\if1\\else").fault(1, 9).count(3, 1);
        Probe.ran("\\iftrue\\if\\fi").fault(1, 13).count(3, 2);
        Probe.ran("\\iftrue\\if\\else").fault(1, 15).count(3, 2);
        Probe.ran("\\let\\f\\fi\\if\\f").fault(1).count(3, 1);
        Probe.ran("\\def\\f{\\fi}\\if\\f").fault(1).count(3, 1);
        // A conditional that came in the test may end there, and the test goes on.
        Probe.ran("\\if\\iftrue1\\fi1y\\fi").outs("y").fine().count(3, 0);
        Probe.ran("\\if\\iftrue1\\else2\\fi1y\\fi").outs("y").fine().count(3, 0);
        Probe.ran("\\if\\iftrue1\\fi\\fi").fault(1).count(3, 1);
    }

    /** "ifx: two tokens are got: holds if they mean the same: the same character with the same category, the same command, nothing both". */
    private static void ifxOfMeanings() {
        Probe.ran("\\ifx11y\\else n\\fi").outs("y").fine();
        Probe.ran("\\ifx12y\\else n\\fi").outs("n").fine();
        Probe.ran("\\def\\a{\\ifx!}\\catcode!03\\a!y\\else n\\fi").outs("n").fine();
        Probe.ran("\\let\\a1\\let\\b1\\ifx\\a\\b y\\else n\\fi").outs("y").fine();
        Probe.ran("\\let\\a1\\ifx1\\a y\\else n\\fi").outs("y").fine();
        Probe.ran("\\let\\a!\\catcode!03\\ifx!\\a y\\else n\\fi").outs("n").fine();
        String[] commands = {"\\par", "\\relax", "\\def", "\\gdef", "\\edef", "\\let", "\\catcode", "\\expandafter",
            "\\noexpand", "\\csname", "\\endcsname", "\\string", "\\if", "\\ifx", "\\iftrue", "\\iffalse", "\\else",
            "\\fi"};
        for (int k = 0; k < commands.length; k++) {
            String next = commands[(k + 1) % commands.length];
            // Not one of them is expanded, and none ends the conditional.
            Probe.ran("\\let\\a" + commands[k] + "\\ifx\\a" + commands[k] + " y\\else n\\fi").outs("y").fine();
            Probe.ran("\\ifx" + next + commands[k] + " y\\else n\\fi").outs("n").fine().count(3, 0);
            Probe.ran("\\ifx\\a" + commands[k] + " y\\else n\\fi").outs("n").fine();
        }
        Probe.ran("\\ifx\\a\\b y\\else n\\fi\\ifx\\a~y\\else n\\fi").outs("yy").fine();
        Probe.ran("\\ifx\\a1y\\else n\\fi").outs("n").fine();
        Probe.ran("\\ifx1").fault(3, 5).count(3, 1);
    }

    /** "or macros with the same text and body". */
    private static void ifxOfMacros() {
        Probe.ran("\\def\\a{1}\\def\\b{1}\\ifx\\a\\b y\\else n\\fi").outs("y").fine();
        Probe.ran("\\def\\a{1}\\let\\b\\a\\ifx\\a\\b y\\else n\\fi").outs("y").fine();
        Probe.ran("\\def\\a{}\\edef\\b{}\\ifx\\a\\b y\\else n\\fi").outs("y").fine();
        Probe.ran("\\def\\a{1}\\def\\b{2}\\ifx\\a\\b y\\else n\\fi").outs("n").fine();
        Probe.ran("\\def\\a{1}\\def\\b{12}\\ifx\\a\\b y\\else n\\fi").outs("n").fine();
        Probe.ran("\\def\\a{12}\\def\\b{1}\\ifx\\a\\b y\\else n\\fi").outs("n").fine();
        Probe.ran("\\def\\a{12}\\def\\b{13}\\ifx\\a\\b y\\else n\\fi").outs("n").fine();
        Probe.ran("\\def\\a.{1}\\def\\b{1}\\ifx\\a\\b y\\else n\\fi").outs("n").fine();
        Probe.ran("\\def\\a.{1}\\def\\b,{1}\\ifx\\a\\b y\\else n\\fi").outs("n").fine();
        Probe.ran("\\def\\a{.1}\\def\\b.{1}\\ifx\\a\\b y\\else n\\fi").outs("n").fine();
        Probe.ran("\\def\\a#1{#1}\\def\\b#1{#1}\\ifx\\a\\b y\\else n\\fi").outs("y").fine();
        Probe.ran("\\def\\a#1{}\\def\\b{}\\ifx\\a\\b y\\else n\\fi").outs("n").fine();
        Probe.ran("\\def\\a#1#2{#1}\\def\\b#1#2{#2}\\ifx\\a\\b y\\else n\\fi").outs("n").fine();
        Probe.ran("\\def\\a{!}\\catcode!03\\def\\b{!}\\ifx\\a\\b y\\else n\\fi").outs("n").fine();
        Probe.ran("\\def\\a{\\x}\\def\\b{\\y}\\ifx\\a\\b y\\else n\\fi").outs("n").fine();
        Probe.ran("\\def\\a{1}\\ifx\\a1y\\else n\\fi\\ifx\\a\\x y\\else n\\fi").outs("nn").fine();
        Probe.ran("\\def\\a{1}\\gdef\\b{1}{\\def\\c{1}\\ifx\\a\\c y\\fi\\ifx\\b\\c y\\fi}").outs("yy").fine();
        // Nor does what other macros held in an earlier run.
        Probe used = Probe.ran("\\def\\a..{12}\\def\\b.,{13}\\def\\c#1{14}");
        used.mouth.wipe();
        used.type("\\def\\a.{1}\\def\\b.{1}\\def\\c.{1}\\ifx\\a\\b y\\fi\\ifx\\b\\c y\\fi\\ifx\\a\\c y\\fi");
        used.runOut().outs("yyy").fault(0);
        // How a parameter's digit or # was written does not matter.
        Probe.ran("\\catcode!6\\def\\a#1{#1}\\def\\b!1{!1}\\ifx\\a\\b y\\else n\\fi").outs("y").fine();
    }

    /** "(Conditionals that these tokens opened and left open are gone then.)" */
    private static void leftOpenAreGone() {
        Probe.ran("\\if\\iftrue11y").outs("y").fine().count(3, 1);
        Probe.ran("\\if\\iftrue\\iftrue\\iftrue11y\\fi z").outs("yz").fine().count(3, 0);
        Probe.ran("\\if1\\iftrue1y\\fi z").outs("yz").fine().count(3, 0);
        Probe.ran("\\if\\iftrue12y\\else n\\fi z").outs("nz").fine().count(3, 0);
        Probe.ran("\\if\\iftrue12y\\fi z\\fi").outs("z").fault(1).count(3, 0);
        Probe.ran("\\if\\iffalse\\else11y\\else n\\fi z").outs("yz").fine().count(3, 0);
        Probe.ran("\\if\\iffalse\\else12y\\else n\\fi z").outs("nz").fine().count(3, 0);
        Probe.ran("\\iftrue\\if\\iftrue11y").fine().count(3, 2);
        Probe.ran("\\if\\iftrue12").fault(3).count(3, 1);
    }

    /** "If it holds, it is in its first part." */
    private static void heldIsInItsFirstPart() {
        for (String opener : new String[] {"\\iftrue", "\\if11", "\\ifx11"}) {
            Probe.ran(opener + "1").fine().count(3, 1);
            Probe.ran(opener + "1\\fi").outs("1").fine().count(3, 0);
            Probe.ran(opener + "1\\else2\\fi").outs("1").fine().count(3, 0);
        }
    }

    /** "Else tokens are got and passed (not expanded; braces do not matter)". */
    private static void passedNotExpanded() {
        Probe.ran("\\def\\a{\\fi}\\iffalse\\a1\\fi2").outs("2").fine();
        Probe.ran("\\def\\a{\\else}\\iffalse\\a1\\fi2").outs("2").fine();
        Probe.ran("\\iffalse{\\fi1").outs("1").fine().count(2, 0);
        Probe.ran("\\iffalse}\\fi1").outs("1").fine();
        Probe.ran("\\iffalse{\\else}\\fi").fault(1).count(3, 1);
        Probe.ran("\\iffalse\\x~#1\\par\\endcsname\\string\\fi1").outs("1").fine().count(1, 2);
        Probe.ran("\\iffalse\\def\\a{1}\\fi").meaning("a", 0).count(4, 0).fine();
        // Pending tokens are passed, too.
        Probe.ran("\\def\\a{\\iffalse1\\else2\\fi3}\\a").outs("23").fine();
        Probe.ran("\\def\\a{\\iffalse1}\\a2\\fi3").outs("3").fine();
    }

    /** "one that means one of these four then goes one deeper; fi one less deep". */
    private static void passedByDepth() {
        for (String opener : OPENERS) {
            Probe.ran("\\iffalse" + opener + "\\else1\\fi2\\else3\\fi4").outs("34").fine().count(3, 0);
            Probe.ran("\\iftrue0\\else" + opener + "\\else1\\fi2\\fi4").outs("04").fine().count(3, 0);
            Probe.ran("\\let\\x" + opener + "\\iffalse\\x1\\fi2\\fi3").outs("3").fine().count(3, 0);
            // What no longer means it goes no deeper.
            Probe.ran("\\iffalse\\fi{\\let" + opener + "\\relax}\\iffalse" + opener + "1\\fi2\\fi3").outs("3").fine();
            Probe.ran("\\let\\i\\iffalse\\let" + opener + "\\relax\\i" + opener + "1\\fi2").outs("2").fine();
        }
        Probe.ran("\\let\\f\\fi\\iffalse\\if1\\f2\\f3").outs("3").fine().count(3, 0);
        Probe.ran("\\let\\f\\fi\\let\\fi\\relax\\iffalse1\\fi2\\f3").outs("3").fine().count(3, 0);
        Probe.ran("\\let\\e\\else\\iffalse1\\e2\\fi").outs("2").fine();
        Probe.ran("\\iffalse\\if\\if\\if\\fi\\fi1\\else2\\fi3\\else4\\fi").outs("4").fine();
        // No other command does.
        Probe.ran("\\iffalse\\endcsname\\csname\\string\\noexpand\\expandafter\\fi1").outs("1").fine().count(3, 0);
    }

    /** "at no depth fi ends it, with the conditional, and else, with which it is in its second part". */
    private static void passedUpToElseOrFi() {
        for (String opener : new String[] {"\\iffalse", "\\if12", "\\ifx12"}) {
            Probe.ran(opener + "1\\fi2").outs("2").fine().count(3, 0);
            Probe.ran(opener + "\\fi2").outs("2").fine().count(3, 0);
            Probe.ran(opener + "1\\else2").outs("2").fine().count(3, 1);
            Probe.ran(opener + "1\\else2\\fi3").outs("23").fine().count(3, 0);
            Probe.ran(opener + "1\\else2\\else3\\fi").outs("2").fault(1).count(3, 1);
            Probe.ran(opener + "1").fault(3).count(3, 1).count(1, 1);
        }
        Probe.of("\\iffalse1\\fi2").run(1, 0).fault(0, 12).count(3, 0).outs("");
        Probe.of("\\iffalse1\\else2").run(1, 0).fault(0, 14).count(3, 1).outs("");
    }

    /** "else: the latest conditional must be in its first part (else fault 1)". */
    private static void elseInTheFirstPart() {
        Probe.ran("\\else").fault(1, 5).count(1, 1);
        Probe.ran("\\iftrue\\fi\\else").fault(1, 15);
        Probe.ran("\\iffalse\\else\\else").fault(1, 18).count(3, 1);
        Probe.ran("\\iftrue\\iffalse\\else\\else").fault(1, 25).count(3, 2);
        Probe.ran("\\iffalse\\else\\iftrue\\else\\fi\\fi1").outs("1").fine().count(3, 0);
        Probe.ran("\\let\\e\\else\\e").fault(1);
    }

    /** "tokens are got and passed likewise up to a fi at no depth, which ends it". */
    private static void elsePassesUpToFi() {
        Probe.ran("\\iftrue1\\else2\\fi3").outs("13").fine().count(3, 0);
        Probe.ran("\\iftrue\\else\\fi3").outs("3").fine().count(3, 0);
        // Another else there is passed, too.
        Probe.ran("\\iftrue1\\else2\\else3\\fi4").outs("14").fine().count(3, 0);
        Probe.ran("\\iftrue1\\else\\iftrue\\else\\fi2\\fi4").outs("14").fine().count(3, 0);
        Probe.ran("\\iftrue1\\else{\\x\\fi4").outs("14").fine().count(2, 0);
        Probe.ran("\\iftrue1\\else2").fault(3, 14).outs("1").count(3, 1);
        Probe.ran("\\iftrue\\iftrue1\\else2\\fi3\\else4\\fi5").outs("135").fine().count(3, 0);
    }

    /** "fi: the latest conditional must be in its first or second part (else fault 1), and is ended." */
    private static void fiInOneOfTheParts() {
        Probe.ran("\\fi").fault(1, 3).count(1, 1);
        Probe.ran("1\\fi").fault(1, 4).outs("1");
        Probe.ran("\\iftrue\\fi\\fi").fault(1, 13).count(3, 0);
        Probe.ran("\\iftrue\\fi").fine().count(3, 0);
        Probe.ran("\\iffalse\\else\\fi").fine().count(3, 0);
        Probe.ran("\\iftrue\\iftrue\\fi").fine().count(3, 1);
        Probe.ran("\\iftrue\\iffalse\\else\\fi").fine().count(3, 1);
        Probe.ran("{\\iftrue}\\fi").fine().count(3, 0).count(2, 0);
    }
}
