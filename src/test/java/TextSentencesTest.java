/** The terms THE TEXT and TOKENS, sentence by sentence: how characters are read, at each edge that is named. */
public final class TextSentencesTest {
    private static final int LETTER = 11;
    private static final int OTHER = 12;

    public static void main(String[] args) {
        atMost160Characters();
        codesOfCharacters();
        categoriesAtFirst();
        namesOfOneToElevenCharacters();
        activeNameIsAnotherOne();
        categoriesAsTheyAreThen();
        newAtTheBeginning();
        escapeNeedsACharacter();
        escapeBeforeAnyCategory();
        lettersAsFarAsCanBe();
        moreThanElevenLetters();
        stateBehindNames();
        passedUpToTheNextLineEnd();
        lineEndWhateverItsCategory();
        withoutLineEndAllIsPassed();
        nothingIsPassedBehindALineEndItself();
        commentMakesNoToken();
        lineEndByState();
        newBehindBoth();
        ignored();
        blanksByState();
        activeCharacters();
        forbiddenCharacters();
        allOthers();
        Probe.end();
    }

    /** "THE TEXT has at most 160 characters". */
    private static void atMost160Characters() {
        Probe.of("").type(Probe.times(160, "x")).refuses("y").run(160, 0).run(1, 1).count(0, 160).fault(0, 160);
        Probe.of(Probe.times(152, "x")).type("12345678").refuses("9").runOut().fine().out(159, '8', OTHER);
        // Eight that would make 161: not even the first seven of them are taken.
        Probe.of(Probe.times(153, "x")).refuses("12345678").type("abcdefg").refuses("h").runOut().fine()
                .outs(Probe.times(153, "x") + "abcdefg");
        Probe.of(Probe.times(159, "x")).refuses("yz").type("y").refuses("z").refuses("\n").runOut().fine();
        // Characters that make no token count, too.
        Probe.of(Probe.times(160, " ")).refuses(" ").run(1, 1).fault(0, 160).count(1, 0);
    }

    /** "with codes 32 .. 126 or 10 (the end of a line)". */
    private static void codesOfCharacters() {
        for (int code = 1; code < 256; code++) {
            int due = code == 10 || code >= 32 && code <= 126 ? 1 : 0;
            for (int shift = 0; shift < 64; shift += 8) {
                TokenMouth mouth = new TokenMouth();
                long among = 0x6161_6161_6161_6161L & ~(255L << shift) | (long) code << shift;
                Probe.check("type of " + code + " at " + shift, mouth.type((long) code << shift) ? 1 : 0, due);
                Probe.check("type with " + code + " at " + shift, mouth.type(among) ? 1 : 0, due);
            }
        }
    }

    /** "Each of these characters has a CATEGORY 0 .. 15: at first ..". */
    private static void categoriesAtFirst() {
        String special = "\\{}$&\n#^_ ~%";
        int[] categories = {0, 1, 2, 3, 4, 5, 6, 7, 8, 10, 13, 14};
        for (int c = 10; c < 127; c = c == 10 ? 32 : c + 1) {
            boolean letter = c >= 'a' && c <= 'z' || c >= 'A' && c <= 'Z';
            int at = special.indexOf(c);
            int category = at >= 0 ? categories[at] : letter ? LETTER : OTHER;
            Probe probe = Probe.of("" + (char) c).category(c, category);
            if (category == 3 || category == 4 || category >= 6 && category <= 8 || category == 11 || category == 12) {
                probe.runOut().fine().out(0, c, category).count(0, 1);
            }
        }
    }

    /** "a NAME: 1 to 11 characters". */
    private static void namesOfOneToElevenCharacters() {
        for (int length = 1; length <= 11; length++) {
            String name = "abcdefghijk".substring(0, length);
            Probe.ran("\\let\\" + name + "=1\\" + name).outs("1").fine();
            // A name that differs in one character, or is one shorter, is another one.
            for (int k = 0; k < length; k++) {
                String other = name.substring(0, k) + "Z" + name.substring(k + 1);
                Probe.ran("\\let\\" + name + "=1\\" + other).outs("").fault(2);
            }
            if (length > 1) {
                Probe.ran("\\let\\" + name + "=1\\" + name.substring(1)).fault(2);
                Probe.ran("\\let\\" + name + "=1\\" + name.substring(0, length - 1)).fault(2);
            }
        }
    }

    /** "the ACTIVE name of a character is another one than the name that is that character alone". */
    private static void activeNameIsAnotherOne() {
        Probe.ran("\\let~1\\let\\~2~\\~").outs("12").fine().activeDetail("~", 0, '1' + 256 * OTHER)
                .detail("~", 0, '2' + 256 * OTHER);
        Probe.ran("\\let\\~2~").fault(2, 8).activeMeaning("~", 0).meaning("~", 2);
        Probe.ran("\\let~2\\~").fault(2, 8).activeMeaning("~", 2).meaning("~", 0);
        Probe.ran("\\def\\a~{x}\\a\\~").fault(6);
        Probe.ran("\\def\\a\\~{x}\\a~").fault(6);
        // Two active names are two.
        Probe.ran("\\catcode!13\\let~1\\let!2~!").outs("12").fine();
        Probe.ran("\\catcode!13\\let~1!").fault(2);
    }

    /** "A token is READ from the text, with the categories as they are then". */
    private static void categoriesAsTheyAreThen() {
        Probe.ran("!\\catcode!03!\\catcode!04!").out(0, '!', OTHER).out(1, '!', 3).out(2, '!', 4).fine();
        // A token that was read before is not read once more.
        Probe.ran("\\def\\a{!}\\catcode!03\\a!").out(0, '!', OTHER).out(1, '!', 3).fine();
        Probe.ran("\\catcode!3!!").out(0, '!', OTHER).out(1, '!', 3).fine();
        Probe.ran("{\\catcode!03!}!").out(0, '!', 3).out(1, '!', OTHER).fine();
    }

    /** "in a state (NEW at the beginning of the text, MIDDLE or SKIPPING)". */
    private static void newAtTheBeginning() {
        Probe.ran("\n").outs("|").fine();
        Probe.ran("   \n").outs("|").fine();
        Probe.ran("   x").outs("x").fine();
        Probe again = Probe.ran("x\n").outs("x ").fine();
        again.mouth.again();
        again.run(500, 1).outs("x ");
        again.mouth.wipe();
        Probe.check("type", again.mouth.type('\n') ? 1 : 0, 1);
        again.run(500, 1).outs("|");
    }

    /** "0: behind it stands a character, of any category (else fault 3)". */
    private static void escapeNeedsACharacter() {
        Probe.ran("\\").fault(3, 1).count(1, 1);
        Probe.ran("x\\").fault(3, 2).outs("x");
        Probe.ran("\\catcode|00|").fault(3, 12).count(1, 2);
        Probe.ran("\\catcode\\").fault(3, 9);
        Probe.ran("\\iffalse\\").fault(3, 9).count(3, 1);
        Probe.ran("\\let\\x=1\\").fault(3, 9).meaning("x", 2);
        // Where a token is not needed, the \ at the end is a fault all the same.
        Probe.ran("\\catcode!1\\").fault(3, 11).category('!', OTHER);
        Probe.ran(Probe.times(159, "x") + "\\").fault(3, 160).count(0, 159);
    }

    /** "a character, of any category", and the state behind such a name. */
    private static void escapeBeforeAnyCategory() {
        for (int category = 0; category < 16; category++) {
            boolean skipping = category == 10 || category == 11;
            String number = category < 10 ? "0" + category : "" + category;
            String start = "\\catcode!" + number + "\\let\\!=1\\!";
            Probe.ran(start + "  .").outs(skipping ? "1." : "1 .").fine();
            Probe.ran(start + "\n.").outs(skipping ? "1." : "1 .").fine();
            Probe.ran("\\catcode!" + number + "\\string\\!").outs("\\!").fine();
        }
        Probe.ran("\\let\\\\=1\\\\").outs("1").fine().detail("\\", 0, '1' + 256 * OTHER);
        Probe.ran("\\let\\\n=1\\\n").outs("1").fine().detail("\n", 0, '1' + 256 * OTHER);
        Probe.ran("\\let\\{=1\\{").outs("1").fine().count(2, 0);
    }

    /** "If it is of category 11, all that follow it and are so, as far as can be, are the name". */
    private static void lettersAsFarAsCanBe() {
        Probe.ran("\\let\\ab=1\\ab").outs("1").fine();
        Probe.ran("\\let\\ab=1\\ab1").outs("11").fine();
        Probe.ran("\\let\\ab=1\\let\\abc=2\\abc\\ab c").outs("21c").fine();
        Probe.ran("\\let\\aZ=1\\aZ").outs("1").fine();
        // By the categories: a digit may be a letter, and a letter may be none.
        Probe.ran("\\catcode911\\let\\a9=1\\a9").outs("1").fine();
        Probe.ran("\\let\\a=1\\catcode b12\\ab").outs("1b").out(1, 'b', OTHER).fine();
        Probe.ran("\\catcode b12\\let\\b=1\\ba").outs("1a").fine();
        Probe.ran("\\let\\a=1\\catcode b15\\ab").outs("1").fault(8, 23);
        Probe.ran("\\let\\a=1\\catcode b09\\abc").outs("1c").fine();
        Probe.ran("\\catcode\\\n11\\let\\a\n=1\\a\n").outs("1").fine().detail("a\n", 0, '1' + 256 * OTHER);
    }

    /** "(of more than 11: fault 5)". */
    private static void moreThanElevenLetters() {
        Probe.ran("\\let\\abcdefghijk=1\\abcdefghijk").outs("1").fine();
        Probe.ran("\\let\\abcdefghijk=1\\abcdefghijk.").outs("1.").fine();
        Probe.ran("\\abcdefghijkl").fault(5, 13).count(1, 1);
        Probe.ran("\\abcdefghijklm.").fault(5, 13);
        Probe.ran("\\iffalse\\abcdefghijkl\\fi").fault(5, 21);
        Probe.ran("\\let\\abcdefghijk=1\\catcode l12\\abcdefghijkl").outs("1l").fine();
        Probe.ran("\\" + Probe.times(159, "x")).fault(5, 13);
    }

    /** "are the name .., SKIPPING then; else it alone is the name, SKIPPING then if it is of category 10, else MIDDLE". */
    private static void stateBehindNames() {
        Probe.ran("\\relax   .").outs(".").fine();
        Probe.ran("\\relax\n.").outs(".").fine();
        Probe.ran("\\relax\n\n.").outs("|.").fine();
        Probe.ran("\\let\\1=2\\1   .").outs("2 .").fine();
        Probe.ran("\\let\\1=2\\1\n.").outs("2 .").fine();
        Probe.ran("\\let\\ =2\\    .").outs("2.").fine();
        Probe.ran("\\let\\ =2\\ \n.").outs("2.").fine();
        Probe.ran("\\catcode!10\\let\\!=2\\!!! .").outs("2.").fine();
        Probe.ran("\\catcode\\ 12\\let\\ =2\\  .").outs("2 .").out(1, ' ', OTHER).fine();
    }

    /** "5, 14: what is behind it up to the next end of a line .., with that, is passed". */
    private static void passedUpToTheNextLineEnd() {
        Probe.ran("a%b\\{}~%%\nc\nd").outs("ac d").fine();
        Probe.ran("\\catcode!05a!b\\{}~!!\nc").outs("a c").fine();
        Probe.of("a%bc\nd").run(1, 0).fault(0, 1).run(1, 0).fault(0, 6);
        Probe.of("\\catcode!05a!bc\nd").run(2, 0).fault(0, 12).run(1, 0).fault(0, 16).run(1, 0).fault(0, 17);
        // Nothing in between.
        Probe.ran("a%\nb").outs("ab").fine();
        Probe.ran("\\catcode!05a!\nb").outs("a b").fine();
    }

    /** "(the character 10, whatever its category; ..)". */
    private static void lineEndWhateverItsCategory() {
        for (int category = 0; category < 16; category++) {
            String number = category < 10 ? "0" + category : "" + category;
            Probe.ran("\\catcode\\\n" + number + "a%b\nc").outs("ac").fine().category(10, category);
            Probe.ran("\\catcode!5\\relax\\catcode\\\n" + number + "a!b\nc").outs("a c").fine();
        }
    }

    /** "without one all". */
    private static void withoutLineEndAllIsPassed() {
        Probe.ran("a%bcd").outs("a").fine();
        Probe.ran("a%").outs("a").fine();
        Probe.ran("%").outs("").fine().count(1, 0);
        Probe.ran("\\catcode!05a!bcd").outs("a ").fine();
        Probe.ran("\\catcode!05a!").outs("a ").fine();
        Probe.ran("%" + Probe.times(159, "x")).outs("").fine().count(1, 0);
        Probe.ran("\\catcode!05a\n!bcd").outs("a |").fine();
    }

    /** "(nothing, if it is itself that)". */
    private static void nothingIsPassedBehindALineEndItself() {
        Probe.ran("a\nb\nc").outs("a b c").fine();
        Probe.ran("\\catcode\\\n14a\nb\nc").outs("abc").fine();
        Probe.of("a\nb").run(2, 0).fault(0, 2);
    }

    /** "for 14 no token comes of it". */
    private static void commentMakesNoToken() {
        Probe.ran("%x\n").outs("").fine().count(1, 0);
        Probe.ran("a%x\n").outs("a").fine().count(1, 1);
        Probe.ran("a %x\n").outs("a ").fine();
        Probe.ran("\\relax%x\n").outs("").fine();
        Probe.ran("\\catcode\\\n14\n\na\n").outs("a").fine();
    }

    /** "for 5, in the state MIDDLE a blank of category 10, in NEW the name par, in SKIPPING none". */
    private static void lineEndByState() {
        Probe.ran("a\n").outs("a ").out(1, ' ', 10).fine();
        Probe.ran("\n").out(0, 4096, 0).fine();
        Probe.ran("a \n").outs("a ").fine().count(0, 2);
        Probe.ran("\\catcode!05a!").out(1, ' ', 10).fine();
        Probe.ran("\\catcode!05%\n!").outs("|").fine();
        Probe.ran("\\catcode!05\\relax!").outs("").fine();
        // It is the name par, whatever that means, and a blank whatever the blank's category is.
        Probe.ran("%\n\\let\\par=1%\n\n").outs("1").fine();
        Probe.ran("\\catcode\\ 12a\n").out(1, ' ', 10).fine();
    }

    /** "NEW then (behind both)". */
    private static void newBehindBoth() {
        Probe.ran("a\n\n").outs("a |").fine();
        Probe.ran("a\n b").outs("a b").fine();
        Probe.ran("a\n \n").outs("a |").fine();
        Probe.ran("a %\n\n").outs("a |").fine();
        Probe.ran("a%\n\n").outs("a|").fine();
        Probe.ran("a%\n b").outs("ab").fine();
        Probe.ran("a \n\n").outs("a |").fine();
        Probe.ran("\n\n").outs("||").fine();
        // At the text's end, too: what is typed behind it (before a step) is read in that state.
        Probe.of("%").run(1, 1).type("\n").run(5, 1).outs("|");
        Probe.of("   ").run(1, 1).type("\n").run(5, 1).outs("|");
    }

    /** "9: passed." */
    private static void ignored() {
        Probe.ran("\\catcode!09!!!").outs("").fine().count(1, 1);
        Probe.ran("\\catcode!09%\n!\n").outs("|").fine();
        Probe.ran("\\catcode!09a!\n!\n").outs("a |").fine();
        Probe.ran("\\catcode!09a !\n").outs("a ").fine();
        Probe.ran("\\catcode!09a! b").outs("a b").fine();
        Probe.ran("\\catcode!09a ! b").outs("a b").fine();
    }

    /** "10: in MIDDLE a blank (32) of category 10, SKIPPING then; else passed." */
    private static void blanksByState() {
        Probe.ran("a b").outs("a b").out(1, ' ', 10).fine();
        Probe.ran("a    b").outs("a b").fine();
        Probe.ran("a    \nb").outs("a b").fine();
        Probe.ran("\\catcode!10a!b").out(1, ' ', 10).out(2, 'b', LETTER).fine();
        Probe.ran("\\catcode!10a! !b").outs("a b").fine();
        Probe.ran("  \n").outs("|").fine();
        Probe.ran("\\relax  b  ").outs("b ").fine();
        Probe.ran("    ").outs("").fine().count(1, 0);
    }

    /** "13: its active name, MIDDLE then." */
    private static void activeCharacters() {
        Probe.ran("\\let~1~ .").outs("1 .").fine();
        Probe.ran("\\let~1~\n.").outs("1 .").fine();
        Probe.ran("\\let~1~~").outs("11").fine();
        Probe.ran("\\let~1\n~\n\n").outs(" 1 |").fine();
        Probe.ran("\\catcode a13\\let a1aa").outs("11").fine().activeMeaning("a", 2).meaning("a", 0);
        Probe.ran("\\catcode\\ 13\\let 1  ").outs("11").fine().activeMeaning(" ", 2);
    }

    /** "15: fault 8." */
    private static void forbiddenCharacters() {
        Probe.ran("\\catcode!15!").fault(8, 12).count(1, 2);
        Probe.ran("\\catcode!15ab!c").fault(8, 14).outs("ab").count(1, 4);
        Probe.ran("\\catcode!15\\def\\a{!}").fault(8, 19).meaning("a", 0);
        Probe.ran("\\catcode!15\\iffalse!\\fi").fault(8, 20).count(3, 1);
        Probe.ran("\\catcode!15%!\n\\let\\!1\\!").outs("1").fine();
        Probe.ran("\\catcode\\\n15a\n").fault(8, 14);
    }

    /** "All others: the character with its category, MIDDLE then." */
    private static void allOthers() {
        int[] categories = {3, 4, 6, 7, 8, 11, 12};
        for (int category : categories) {
            String number = category < 10 ? "0" + category : "" + category;
            Probe.ran("\\catcode!" + number + "! .").outs("! .").out(0, '!', category).out(1, ' ', 10).fine();
            Probe.ran("\\catcode!" + number + "%\n!\n").outs("! ").fine();
        }
        Probe.ran("\\catcode!01! .").outs(" .").count(2, 1).fine();
        Probe.ran("{\\catcode!02! .").outs(" .").count(2, 0).fine();
    }
}
