/** Groups, let, catcode, gdef and what comes back when a group is closed: promises 5, 8, 9 and 10. */
public final class GroupTest {
    public static void main(String[] args) {
        groups();
        lets();
        catcodes();
        global();
        Probe.end();
    }

    private static void groups() {
        Probe.ran("{a{b}c").outs("abc").count(2, 1).fine();
        Probe.ran("}").fault(1, 1).count(2, 0);
        Probe.ran("\\def\\a{x}{\\def\\a{y}\\a}\\a").outs("yx").fine();
        Probe.ran("{\\def\\a{y}}\\a").fault(2).meaning("a", 0);
        Probe.ran("\\let\\o={\\let\\c=}\\o\\let\\x=1\\x}\\x").fault(2).outs("1").count(2, 0);
        Probe.ran("{\\let\\x=1{\\let\\x=2\\let\\x=3\\x}\\x}\\ifx\\x\\undefd y\\fi").outs("31y").fine();
        Probe.ran("{{\\let\\x=1}\\let\\x=2{\\let\\x=3}\\x}").outs("2").meaning("x", 0).fine();
        Probe.ran("{\\let\\par=x\\par}\\par").outs("x|").fine();
        Probe.ran("{\\let\\fi=\\relax}\\iftrue\\fi").count(3, 0).detail("fi", 0, 18).fine();
        // A group doesn't keep macros from being counted, nor conditionals open.
        Probe.ran("{\\def\\a{}\\iftrue}").count(4, 1).count(3, 1).count(2, 0).fine();
    }

    private static void lets() {
        Probe.ran("\\let\\x=a\\let\\y b\\x\\y").outs("ab").fine();
        Probe.ran("\\let\\x==\\x").outs("=").fine();
        Probe.ran("\\let\\x= a\\x").outs("a ").out(1, ' ', 10).fine();
        Probe.ran("\\let\\x = a\\x").outs("a ").fine();
        Probe.ran("\\let\\x#\\x").outs("#").out(0, '#', 6).fine();
        Probe.ran("\\catcode=03\\let\\x==").outs("=").detail("x", 0, '=' + 3 * 256).fine();
        Probe.ran("\\let x").fault(4, 6);
        Probe.ran("\\let").fault(3, 4);
        Probe.ran("\\let\\x").fault(3, 6);
        Probe.ran("\\let\\x=").fault(3, 7);
        Probe.ran("\\let~=\\par~").outs("|").fine();
        Probe.ran("\\def\\a{x}\\let\\b\\a\\def\\a{y}\\b").outs("x").count(4, 2).fine();
        Probe.ran("\\let\\relax=\\undefd\\relax").fault(2).meaning("relax", 0).detail("relax", 0, -1);
    }

    private static void catcodes() {
        Probe.ran("\\catcode!03!\\catcode\\!04!\\catcode!13\\catcode!07!").outs("!!!").out(0, '!', 3).out(1, '!', 4)
                .out(2, '!', 7).fine();
        Probe.ran("\\catcode!1").category('!', 1).fine();
        Probe.ran("\\catcode!11").category('!', 11).fine();
        Probe.ran("\\catcode!115").category('!', 11).outs("5").fine();
        Probe.ran("\\catcode!01").category('!', 1).outs("").fine();
        Probe.ran("\\catcode!15").category('!', 15).fine();
        Probe.ran("\\catcode!16").fault(4, 11).category('!', 12);
        Probe.ran("\\catcode!99").fault(4, 11);
        Probe.ran("\\catcode!4x").category('!', 4).outs("x").fine();
        Probe.ran("\\catcode!4!").category('!', 4).outs("!").out(0, '!', 12).fine();
        Probe.ran("\\catcode!4\n\n").outs(" |").fine();
        Probe.ran("\\catcode").fault(3, 8);
        Probe.ran("\\catcode!").fault(3, 9);
        Probe.ran("\\catcode!x").fault(4, 10);
        Probe.ran("\\catcode! 4").fault(4, 10);
        Probe.ran("\\catcode\\ab4").fault(4, 11);
        Probe.ran("\\catcode\\fi4").fault(4, 11);
        Probe.ran("\\catcode\\par4").fault(4, 12);
        Probe.ran("\\catcode311\\catcode!3").fault(4, 21).outs("");
        Probe.ran("\\let\\x=3\\catcode!\\x").fault(4);
        Probe.ran("\\catcode311\\catcode!13").category('!', 1).outs("3").fine();
        Probe.ran("\\let\\b=\\relax\\catcode\\b03b").outs("b").out(0, 'b', 3).fine();
        Probe.ran("{\\catcode!03!\\catcode!04!}!").outs("!!!").out(1, '!', 4).out(2, '!', 12).category('!', 12).fine();
        Probe.ran("{\\catcode!3{\\catcode!04!}!}!").out(0, '!', 4).out(1, '!', 3).out(2, '!', 12).fine();
        // What was looked at behind the number is back in front, with its old category.
        Probe.ran("{\\catcode|0|relax}").fault(0).outs("|relax").out(0, '|', 12).category('|', 12);
    }

    private static void global() {
        Probe.ran("{\\gdef\\a{x}}\\a").outs("x").fine();
        Probe.ran("{{\\def\\a{y}\\gdef\\a{x}\\a}\\a}\\a").outs("xxx").fine();
        Probe.ran("{\\def\\a{1}{\\def\\a{2}\\gdef\\a{3}\\def\\a{4}\\a}\\a}\\a").outs("433").fine();
        Probe.ran("{\\gdef\\a{1}\\def\\a{2}\\a}\\a").outs("21").fine();
        Probe.ran("\\gdef\\a#1{(#1)}\\a x").outs("(x)").detail("a", 0, 1).fine();
        Probe.ran("{\\let\\b=1\\gdef\\a{3}}\\ifx\\b\\undefd\\a\\fi").outs("3").fine();
        Probe.ran("\\def\\b{x}{\\gdef\\a{\\b}\\def\\b{y}\\a}\\a").outs("yx").fine();
        Probe.ran("{\\edef\\a{x}}").meaning("a", 0).count(4, 1);
    }
}
