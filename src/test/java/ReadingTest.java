/** How characters become tokens, and how far the text is read: the terms THE TEXT and TOKENS, promises 5 to 7. */
public final class ReadingTest {
    public static void main(String[] args) {
        escapes();
        linesAndComments();
        blanks();
        otherCategories();
        changedCategories();
        Probe.end();
    }

    private static void escapes() {
        Probe.ran("\\").fault(3, 1).count(1, 1);
        Probe.ran("ab\\").fault(3, 3).outs("ab").count(1, 3);
        Probe.ran("\\let\\abcdefghijk x\\abcdefghijk").fine().outs("x");
        Probe.ran("\\abcdefghijk").fault(2, 12);
        Probe.ran("\\abcdefghijkl").fault(5, 13);
        Probe.ran("\\abcdefghijklmnop").fault(5, 13);
        // A name that is no letter is one character, of whatever category; only behind a blank are blanks skipped.
        Probe.ran("\\let\\1x\\12").outs("x2").fine();
        Probe.ran("\\let\\1x\\1 a").outs("x a").fine();
        Probe.ran("\\let\\ x\\   a").outs("xa").fine();
        Probe.ran("\\let\\{x\\{}").fault(1, 10).outs("x");
        Probe.ran("\\let\\\nx\\\n\n").outs("x ").fine();
        Probe.ran("\\let\\%x\\%a").outs("xa").fine();
        Probe.ran("\\let\\~x\\~").outs("x").meaning("~", 2).activeMeaning("~", 0);
        Probe.ran("\\let\\x1\\x   a\\x\n\n").outs("1a1|").fine();
        // An escape character needs no letter behind it, and a forbidden one may stand there.
        Probe.ran("\\catcode!15\\let\\!x\\!\\!").outs("xx").fine();
        Probe.ran("\\catcode|00|let|ab=x\\ab|ab").outs("xx").fine();
        Probe.ran("\\catcode111\\let\\a1=x\\a1 y").outs("xy").fine();
    }

    private static void linesAndComments() {
        Probe.ran("\n").outs("|").out(0, 4096, 0).fine();
        Probe.ran("a\n").outs("a ").out(1, ' ', 10).fine();
        Probe.ran("a\n\n\nb").outs("a ||b").fine();
        Probe.ran("a \nb").outs("a b").fine();
        Probe.ran("a \n \n b").outs("a |b").fine();
        Probe.ran("\\relax\nb").outs("b").fine();
        Probe.ran("a%bc\nd").outs("ad").fine();
        Probe.ran("a%b\n\nc").outs("a|c").fine();
        Probe.ran("a%bc").outs("a").fine();
        Probe.ran("a%b\n  c").outs("ac").fine();
        // Of category 5, but not the end of a line: the rest of the line is passed with it.
        Probe.ran("\\catcode!5a!b\nc").outs("a c").fine();
        Probe.ran("\\catcode!05!b\n!c").outs(" |").fine();
        Probe.ran("\\catcode!5\\relax!b\nc").outs("c").fine();
        Probe.ran("\\catcode!5 !b\nc").outs(" c").fine();
        // The character 10 ends a line whatever its category.
        Probe.ran("\\catcode\\\n12a%b\nc\nd").outs("ac\nd").out(2, 10, 12).fine();
        Probe.ran("\\catcode\\\n14a\nb\n\nc").outs("abc").fine();
        Probe.ran("\\catcode\\\n9a\nb").outs("ab").fine();
        Probe.ran("\\catcode\\\n10a\n\nb").outs("a b").out(1, ' ', 10).fine();
        Probe.ran("\\catcode\\\n13\\let\nx\n").outs("x").activeMeaning("\n", 2).fine();
        // The end of a line makes the name par, whatever that means.
        Probe.ran("\\let\\par=x\n\n").outs(" x").out(1, 'x', 11).fine();
        Probe.ran("\\def\\par{y}\n\n\n").outs(" yy").fine();
        Probe.ran("\\let\\p=\\par\\p\\let\\par=\\relax\n\n\\p").outs("||").fine();
    }

    private static void blanks() {
        Probe.ran("  a   b  ").outs("a b ").fine();
        Probe.ran("\\catcode!10a!!b").outs("a b").out(1, ' ', 10).fine();
        Probe.ran("\\catcode\\ 12a  b").outs("a  b").out(1, ' ', 12).fine();
        Probe.ran("\\catcode\\ 9a  b").outs("ab").fine();
        // An ignored character leaves the state as it is.
        Probe.ran("\\catcode!09!!\n!!\na!  !b").outs(" |a b").fine();
    }

    private static void otherCategories() {
        Probe.ran("$&#^_1.").outs("$&#^_1.").out(0, '$', 3).out(1, '&', 4).out(2, '#', 6).out(3, '^', 7)
                .out(4, '_', 8).out(5, '1', 12).fine();
        Probe.ran("~").fault(2, 1);
        Probe.ran("\\let~=x\\relax~ a\n~\nb").outs("x a x b").fine();
        Probe.ran("\\catcode!15a!b").fault(8, 13).outs("a").count(1, 3);
        Probe.ran("\\catcode!15{\\iffalse !").fault(8, 22).count(2, 1).count(3, 1);
        Probe.ran("\\catcode!15\\def\\a#1{}\\a!").fault(8, 24);
        Probe.ran("\\catcode!15\\catcode a1!").fault(8, 23).category('a', 11);
    }

    private static void changedCategories() {
        // A token that was read keeps its category; what stands behind it is read with the new one.
        Probe.ran("\\def\\a{!}\\catcode!13\\let!=x!\\a").outs("x!").out(1, '!', 12).fine();
        Probe.ran("\\catcode a12\\let\\b=y\\ba").outs("ya").out(1, 'a', 12).fine();
        Probe.ran("\\catcode`01\\catcode'02`\\catcode+03+'+").outs("++").out(0, '+', 3).out(1, '+', 12).category('+', 12);
        Probe.ran("\\catcode a15 ba").fault(8, 15).outs(" b").category('a', 15);
    }
}
