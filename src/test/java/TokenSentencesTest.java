/** The terms from GET to GET EXPANDED, sentence by sentence: pending tokens, names, meanings, marks, steps. */
public final class TokenSentencesTest {
    private static final String[] EXPANDABLE = {"expandafter", "noexpand", "csname", "string", "if", "ifx", "iftrue",
        "iffalse", "else", "fi"};
    private static final int OTHER = 12;

    public static void main(String[] args) {
        pendingFirst();
        textEndWhereATokenIsNeeded();
        textEndWhereNoneIsNeeded();
        inFrontOfThosePending();
        moreThan300Pending();
        hundredNames();
        activeNamesCount();
        commandNamesDoNotCount();
        passedNamesCount();
        namesMadeByCsnameCount();
        charactersMeanThemselves();
        namesMeanNothingAtFirst();
        expandableCommands();
        otherCommands();
        markedMeansRelax();
        markedPutBackAgain();
        markedNoMore();
        markedIsTheSameName();
        withoutATokenTheRunHasEnded();
        thirtyGroups();
        closingWithoutAGroup();
        anyOtherCharacterIsOut();
        parRelaxEndcsnameNothing();
        moreThan200Out();
        closedGroups();
        gotExpanded();
        twoHundredExpansionsInAStep();
        thirtyExpansionsNotDone();
        Probe.end();
    }

    /** "To GET a token is to take the first of those that are PENDING, else to read one". */
    private static void pendingFirst() {
        Probe.ran("\\def\\a{12}\\a3").outs("123").fine();
        Probe.of("\\def\\a{12}\\a3").run(2, 0).fault(0, 12).run(2, 0).outs("12").fault(0, 12).run(1, 0).fault(0, 13);
        Probe.ran("\\def\\a{\\let\\b}\\a x\\b").outs("x").fine();
    }

    /** "at the end of the text (with nothing pending) there is none: fault 3, where one is needed". */
    private static void textEndWhereATokenIsNeeded() {
        String[] texts = {"\\def", "\\def\\a", "\\def\\a#", "\\def\\a#1", "\\def\\a{", "\\def\\a{#", "\\def\\a{{}",
            "\\gdef", "\\gdef\\a", "\\gdef\\a{", "\\edef", "\\edef\\a", "\\edef\\a{", "\\edef\\a{#", "\\edef\\a{\\par",
            "\\let", "\\let\\a", "\\let\\a=", "\\catcode", "\\catcode!", "\\catcode\\!", "\\expandafter",
            "\\expandafter1", "\\noexpand", "\\string", "\\csname", "\\csname a", "\\if", "\\if1", "\\ifx", "\\ifx1",
            "\\iffalse", "\\iffalse\\if\\fi", "\\iftrue\\else", "\\if12", "\\ifx12", "\\def\\a#1{}\\a",
            "\\def\\a#1{}\\a{", "\\def\\a#1{}\\a{{}", "\\def\\a#1#2{}\\a1", "\\def\\a#1.{}\\a", "\\def\\a#1.{}\\a1",
            "\\def\\a#1.{}\\a{.}", "\\def\\a.{}\\a", "\\def\\a..{}\\a.", "\\def\\a{\\let\\b}\\a"};
        for (String text : texts) {
            Probe.ran(text).fault(3, text.length()).run(1, Probe.STATE);
            // Characters that make no token are read on the way to the end.
            Probe.ran(text + "%x\n").fault(3, text.length() + 3);
        }
    }

    /** The same sentence: the places where a token is not needed. */
    private static void textEndWhereNoneIsNeeded() {
        String[] texts = {"", "{", "\\relax", "\\iftrue", "\\catcode!1", "\\iffalse\\else", "\\def\\a{}\\a", "%", "  "};
        for (String text : texts) {
            Probe.ran(text).fine().run(1, 1).run(500, 1);
        }
        Probe.ran("\\catcode!1").category('!', 1).count(1, 1);
    }

    /** "To PUT tokens BACK is to put them in front of those pending". */
    private static void inFrontOfThosePending() {
        Probe.ran("\\def\\a{12}\\def\\b{\\a34}\\b5").outs("12345").fine();
        Probe.ran("\\def\\a#1{#1#1}\\def\\b{\\a{12}3}\\b").outs("12123").fine();
        Probe.ran("\\def\\b{\\string\\ab1}\\b").outs("\\ab1").fine();
        Probe.ran("\\def\\b{\\expandafter12}\\b3").outs("123").fine();
        Probe.ran("\\def\\b{\\catcode!1.2}\\b").outs(".2").category('!', 1).fine();
    }

    /** "more than 300 pending: fault 5". */
    private static void moreThan300Pending() {
        String xs = "{" + Probe.times(37, "x") + "}";
        String start = "\\def\\a#1{" + Probe.times(8, "#1");
        Probe.of(start + "....}\\a" + xs).run(2, 0).fault(0).run(200, 0).count(0, 200).run(1, Probe.STATE).fault(5);
        Probe.of(start + ".....}\\a" + xs).run(2, Probe.STATE).fault(5, start.length() + 47).count(1, 2).count(0, 0);
        // Those that string puts back in front of others: 297 + 3, and 298 + 3.
        String string = "\\def\\a#1{\\string\\ab" + Probe.times(8, "#1");
        Probe.of(string + ".}\\a" + xs).run(3, 0).fault(0);
        Probe.of(string + "..}\\a" + xs).run(2, 0).run(1, Probe.STATE).fault(5).count(1, 3);
        // That which expandafter puts back in the end: 299 + 1, and 300 + 1.
        Probe.of(start + "...}\\expandafter1\\a" + xs).run(2, 0).fault(0);
        Probe.of(start + "....}\\expandafter1\\a" + xs).run(1, 0).run(1, Probe.STATE).fault(5).count(1, 2);
    }

    /** Makes 98 names: n, r, and 96 by csname, with room for 33 characters. */
    private static String ninetyEightNames() {
        StringBuilder text = new StringBuilder("\\def\\n#1#2{\\csname#1#2\\endcsname}\\def\\r#1{");
        for (char c = 'a'; c <= 'l'; c++) {
            text.append("\\n#1").append(c);
        }
        return text.append("}\\r1\\r2\\r3\\r4\\r5\\r6\\r7\\r8").toString();
    }

    /** "Of names that were read, or made by csname, 100 different ones may be known ..; one more: fault 5." */
    private static void hundredNames() {
        String text = ninetyEightNames();
        Probe.ran(text + "\\let\\y1\\let\\z2\\y\\z").outs("12").fine();
        Probe.ran(text + "\\let\\y1\\let\\z2\\x").fault(5, text.length() + 16);
        Probe.ran(text + "\\let\\y1\\let\\z\\x").fault(5, text.length() + 15).meaning("z", 0).meaning("y", 2);
        // Only different ones count.
        Probe.ran(text + "\\let\\y1\\y\\y\\y\\y").outs("1111").fine();
        // The length of the name does not matter, and all of it is read.
        Probe.ran(text + "\\let\\y\\z\\xyzw.").fault(5, text.length() + 13);
        Probe.ran(text + "\\let\\y\\z\\..").fault(5, text.length() + 10);
        // A name stays known when the group in which it came is closed.
        Probe.ran(text + "{\\let\\y1\\let\\z1}\\x").fault(5, text.length() + 18).meaning("y", 0);
        Probe probe = Probe.ran(text + "\\let\\y\\z\\x").fault(5);
        probe.mouth.again();
        probe.runOut().fault(5, text.length() + 10);
        // Only asking for a name makes it not known.
        Probe asked = Probe.of(text + "\\let\\y1\\let\\z2\\y");
        for (char c = 'A'; c <= 'Z'; c++) {
            asked.meaning("q" + c, 0).detail("p" + c, 0, TokenMouth.NONE).activeMeaning("" + c, 0);
        }
        asked.runOut().outs("1").fine();
    }

    /** "(active ones count, too". */
    private static void activeNamesCount() {
        String text = ninetyEightNames();
        Probe.ran(text + "\\let~1\\let\\~2~\\~").outs("12").fine();
        Probe.ran(text + "\\let~1\\let\\~2\\x").fault(5, text.length() + 15);
        Probe.ran(text + "\\let\\y1\\let\\z2~").fault(5, text.length() + 15);
    }

    /** "besides the commands'". */
    private static void commandNamesDoNotCount() {
        String text = ninetyEightNames() + "\\let\\y\\z";
        for (String name : EXPANDABLE) {
            Probe.ran(text + "\\let\\" + name).fault(3);
            Probe.ran(text + "\\noexpand\\" + name).fine();
        }
        String[] others = {"relax", "gdef", "edef", "let", "def", "catcode", "endcsname"};
        for (String name : others) {
            Probe.ran(text + "\\string\\" + name).outs("\\" + name).fine();
        }
        Probe.ran(text + "\n\n\\par").outs("||").fine();
    }

    /** "also those that a conditional passes)". */
    private static void passedNamesCount() {
        String names = ninetyEightNames();
        Probe.ran(names + "\\iffalse\\y\\z\\fi").fine();
        Probe.ran(names + "\\iffalse\\y\\z\\x\\fi").fault(5, names.length() + 14).count(3, 1);
        Probe.ran(names + "\\iffalse~\\z\\x\\fi").fault(5, names.length() + 13).count(3, 1);
        Probe.ran("\\iftrue\\else\\y\\z\\x\\fi" + ninetyEightNames().replace("\\r8", "")).fine();
    }

    /** "or made by csname": that which is the 101st one is fault 5 and means nothing. */
    private static void namesMadeByCsnameCount() {
        String text = ninetyEightNames();
        Probe.ran(text + "\\n yz\\n zy\\n yz").fine().detail("zy", 0, 2);
        Probe.ran(text + "\\n yz\\n zy\\n zz").fault(5, text.length() + 15).meaning("zz", 0).meaning("zy", 1);
        // A command's name, made by csname, is that command's.
        Probe.ran(text + "\\let\\y\\z\\n fi").fault(1).count(1, Probe.of(text).runSteps() + 4);
    }

    /** "A character means itself". */
    private static void charactersMeanThemselves() {
        Probe.ran("\\ifx11y\\fi\\ifx12\\else n\\fi").outs("yn").fine();
        Probe.ran("\\let\\x1\\ifx\\x1y\\fi").outs("y").fine();
        Probe.ran("\\let\\x1\\x").out(0, '1', OTHER).detail("x", 0, '1' + 256 * OTHER).fine();
    }

    /** "a name means nothing at first, or, if it is one of .., that COMMAND". */
    private static void namesMeanNothingAtFirst() {
        String[] none = {"a", "pa", "parr", "Par", "de", "deff", "iff", "i", "f", "elsefi", "endcsnam", "expandaf", "ifix"};
        Probe fresh = Probe.of("");
        for (String name : none) {
            fresh.meaning(name, 0);
            Probe.ran("\\" + name).fault(2, name.length() + 1).count(1, 1);
        }
        for (char c = 32; c < 127; c++) {
            fresh.meaning("" + c, 0).activeMeaning("" + c, 0);
        }
        fresh.meaning("\n", 0).activeMeaning("\n", 0);
        Probe.ran("\\let\\x\\expandafter\\x12").outs("12").detail("x", 0, 8).fine();
        Probe.ran("\\endcsname").fault(1, 10);
    }

    /** "EXPANDABLE are macros and the commands expandafter, noexpand, csname, string, if, ifx, iftrue, iffalse, else, fi." */
    private static void expandableCommands() {
        for (String name : EXPANDABLE) {
            // Marked, it is relax for one step.
            Probe.ran("\\noexpand\\" + name).outs("").fine().count(1, 2).count(3, 0);
            Probe.ran("\\let\\x\\" + name + "\\noexpand\\x").fine().count(1, 3).count(3, 0);
        }
        Probe.ran("\\def\\a{1}\\noexpand\\a").outs("").fine().count(1, 3);
        Probe.ran("\\def~{1}\\noexpand~").outs("").fine();
        Probe.ran("\\def\\a{1}\\let\\b\\a\\noexpand\\b").outs("").fine();
    }

    /** The same sentence: all others are not expandable, and noexpand leaves them as they are. */
    private static void otherCommands() {
        Probe.ran("\\noexpand\\par").outs("|").fine();
        Probe.ran("\\noexpand\\relax").outs("").fine();
        Probe.ran("\\noexpand\\def\\a{1}\\a").outs("1").fine();
        Probe.ran("\\noexpand\\gdef\\a{1}\\a").outs("1").fine();
        Probe.ran("\\noexpand\\edef\\a{1}\\a").outs("1").fine();
        Probe.ran("\\noexpand\\let\\a1\\a").outs("1").fine();
        Probe.ran("\\noexpand\\catcode!3").category('!', 3).fine();
        Probe.ran("\\noexpand\\endcsname").fault(1, 19).count(1, 2);
        Probe.ran("\\noexpand\\a").fault(2, 11).count(1, 2);
        Probe.ran("\\let\\a1\\noexpand\\a\\noexpand1\\noexpand{\\noexpand}").outs("11").fine().count(2, 0);
        String[] names = {"par", "relax", "def", "gdef", "edef", "let", "catcode", "a"};
        for (String name : names) {
            // Got expanded, they stay.
            Probe.ran("\\edef\\b{\\" + name + "}").fine().detail("b", 2, 1).detail("b", 3, 4096);
        }
        Probe.ran("\\edef\\b{\\endcsname}").fine().detail("b", 2, 1);
    }

    /** "A MARKED name means relax (for if, ifx, let, passing, too)". */
    private static void markedMeansRelax() {
        Probe.ran("\\def\\a{1}\\noexpand\\a").outs("").fine();
        Probe.ran("\\def\\a{1}\\if\\noexpand\\a\\relax y\\else n\\fi").outs("y").fine();
        Probe.ran("\\let\\a\\string\\if\\noexpand\\a1y\\else n\\fi").outs("n").fine();
        Probe.ran("\\def\\a{1}\\expandafter\\ifx\\noexpand\\a\\relax y\\else n\\fi").outs("y").fine();
        Probe.ran("\\def\\a{1}\\expandafter\\ifx\\noexpand\\a\\a y\\else n\\fi").outs("n").fine();
        Probe.ran("\\def\\a{1}\\expandafter\\let\\expandafter\\b\\noexpand\\a").detail("b", 0, 2).fine();
        Probe.ran("\\def\\a{1}\\expandafter\\let\\expandafter\\b\\expandafter=\\noexpand\\a").detail("b", 0, 2).fine();
        Probe.ran("\\expandafter\\iffalse\\noexpand\\fi1\\fi2").outs("2").fine();
        Probe.ran("\\expandafter\\iffalse\\noexpand\\else1\\else2\\fi").outs("2").fine();
        Probe.ran("\\expandafter\\iffalse\\noexpand\\if\\fi1").outs("1").fine().count(3, 0);
        Probe.ran("\\iftrue\\expandafter\\else\\noexpand\\fi1\\fi2").outs("2").fine();
        Probe.ran("\\def\\a{1}\\csname\\noexpand\\a\\endcsname").fault(4);
    }

    /** "as long as it is pending or put back, again, too". */
    private static void markedPutBackAgain() {
        Probe.ran("\\def\\a{1}\\expandafter\\relax\\noexpand\\a\\a").outs("1").fine();
        Probe.ran("\\def\\a{1}\\expandafter\\noexpand\\noexpand\\a").outs("").fine();
        Probe.ran("\\def\\a{1}\\expandafter\\expandafter\\expandafter\\relax\\noexpand\\a").outs("").fine();
        Probe.ran("\\def\\a{1}\\expandafter\\expandafter\\noexpand\\a\\relax").outs("").fine();
        Probe.ran("\\def\\a{1}\\def\\b{\\catcode!3}\\expandafter\\b\\noexpand\\a\\a").outs("1").category('!', 3).fine();
        // Marked once, it is not marked when it is got anew.
        Probe.ran("\\def\\a{1}\\noexpand\\a\\a\\a").outs("11").fine();
    }

    /** "in an argument, a text or a body it is marked no more". */
    private static void markedNoMore() {
        Probe.ran("\\def\\a{1}\\def\\b#1{#1}\\expandafter\\b\\noexpand\\a").outs("1").fine();
        Probe.ran("\\def\\a{1}\\def\\b#1.{#1}\\expandafter\\b\\noexpand\\a.").outs("1").fine();
        Probe.ran("\\def\\a{1}\\expandafter\\def\\expandafter\\b\\noexpand\\a{2}\\b\\a").outs("2").fine();
        Probe.ran("\\def\\a{1}\\expandafter\\def\\expandafter\\b\\expandafter{\\noexpand\\a}\\b").outs("1").fine();
        Probe.ran("\\def\\a{1}\\expandafter\\gdef\\expandafter\\b\\expandafter{\\noexpand\\a}\\b").outs("1").fine();
        Probe.ran("\\def\\a{1}\\edef\\b{\\noexpand\\a}\\b").outs("1").detail("b", 2, 1).detail("b", 3, 4096).fine();
        Probe.ran("\\def\\a{1}\\edef\\b{\\noexpand\\a}\\def\\c{\\a}\\ifx\\b\\c y\\fi").outs("y").fine();
    }

    /** "and as a name it is the same as without the mark". */
    private static void markedIsTheSameName() {
        Probe.ran("\\def\\a{1}\\expandafter\\def\\noexpand\\a{2}\\a").outs("2").fine();
        Probe.ran("\\def\\a{1}\\expandafter\\let\\noexpand\\a2\\a").outs("2").fine();
        Probe.ran("\\def\\a{1}\\expandafter\\string\\noexpand\\a").outs("\\a").fine();
        Probe.ran("\\def\\a{1}\\expandafter\\catcode\\noexpand\\a3").category('a', 3).fine();
        Probe.ran("\\def~{1}\\expandafter\\catcode\\noexpand~3").category('~', 3).fine();
        Probe.ran("\\def\\a{1}\\def\\b\\a{2}\\expandafter\\b\\noexpand\\a").outs("2").fine();
        Probe.ran("\\def\\a{1}\\def\\b#1\\a{(#1)}\\expandafter\\b\\noexpand\\a").outs("()").fine();
        Probe.ran("\\def\\par{1}\\def\\b#1{}\\expandafter\\b\\noexpand\\par").fault(7);
    }

    /** "A STEP: a token is got; without one the run has ENDED." */
    private static void withoutATokenTheRunHasEnded() {
        Probe.of("").run(1, 1).count(1, 0).run(500, 1).count(1, 0);
        Probe.of("1").run(1, 0).count(1, 1).run(1, 1).count(1, 1);
        Probe.of("1 % \n  %").run(2, 0).run(1, 1).count(1, 2).fault(0, 8);
        Probe.of("\\def\\a{}\\a").run(2, 0).run(1, 1).count(1, 2);
    }

    /** "a character of category 1 opens a GROUP (30 at most, else fault 5)", also a name that means one. */
    private static void thirtyGroups() {
        Probe.ran(Probe.times(30, "{")).fine().count(2, 30);
        Probe.ran(Probe.times(31, "{")).fault(5, 31).count(2, 30).count(1, 31);
        Probe.ran(Probe.times(30, "{}")).fine().count(2, 0);
        Probe.ran(Probe.times(30, "{") + "}{").fine().count(2, 30);
        Probe.ran("\\let\\o={" + Probe.times(30, "\\o")).fine().count(2, 30);
        Probe.ran("\\let\\o={" + Probe.times(31, "\\o")).fault(5, 70).count(2, 30);
        Probe.ran("\\catcode!01" + Probe.times(31, "!")).fault(5, 42).count(2, 30);
    }

    /** "one of 2 closes the latest one (without one: fault 1)". */
    private static void closingWithoutAGroup() {
        Probe.ran("}").fault(1, 1).count(1, 1).count(2, 0);
        Probe.ran("{}}").fault(1, 3).count(2, 0);
        Probe.ran("\\let\\c=}\\c").fault(1, 10);
        Probe.ran("\\let\\c=}{\\c").fine().count(2, 0);
        Probe.ran("{{}").fine().count(2, 1);
    }

    /** "any other one, of whatever category, is OUT". */
    private static void anyOtherCharacterIsOut() {
        Probe.ran("$&#^_ a1").outs("$&#^_ a1").out(0, '$', 3).out(1, '&', 4).out(2, '#', 6).out(3, '^', 7)
                .out(4, '_', 8).out(5, ' ', 10).out(6, 'a', 11).out(7, '1', OTHER).fine();
        Probe.ran("\\let\\a$\\let\\b&\\let\\c#\\let\\d^\\let\\e_\\let\\f= \\let\\g a\\a\\b\\c\\d\\e\\f\\g")
                .outs("$&#^_ a").out(0, '$', 3).out(2, '#', 6).out(5, ' ', 10).fine();
    }

    /** "par is OUT; relax: nothing; endcsname: fault 1; nothing: fault 2". */
    private static void parRelaxEndcsnameNothing() {
        Probe.ran("\\par").out(0, 4096, 0).count(0, 1).fine();
        Probe.ran("\\let\\p\\par\\p").out(0, 4096, 0).fine();
        Probe.ran("\\relax").count(0, 0).count(1, 1).fine();
        Probe.ran("1\\endcsname2").fault(1, 11).outs("1").count(1, 2);
        Probe.ran("\\let\\e\\endcsname\\e").fault(1).count(1, 2);
        Probe.ran("1\\x2").fault(2, 3).outs("1").count(1, 2);
        Probe.ran("1~2").fault(2, 2).outs("1").count(1, 2);
        Probe.ran("\\let\\par\\x\\par").fault(2);
    }

    /** "More than 200 tokens OUT: fault 5." */
    private static void moreThan200Out() {
        String start = "\\def\\a{xxxxxxxxxx}\\def\\b{\\a\\a\\a\\a\\a\\a\\a\\a\\a\\a}\\b\\b";
        Probe.ran(start).fine().count(0, 200).out(199, 'x', 11);
        Probe.ran(start + "\\relax{}").fine().count(0, 200);
        Probe.ran(start + "1").fault(5, start.length() + 1).count(0, 200).out(199, 'x', 11).out(200, Probe.INDEX, 0);
        Probe.ran(start + "\\par").fault(5, start.length() + 4).count(0, 200);
        Probe.ran("\\let\\y1" + start + "\\y").fault(5).count(0, 200);
        Probe.ran(start + "%\n\n").fault(5, start.length() + 3).count(0, 200);
    }

    /** "When a group is closed, meanings and categories that were changed in it are as they were .., but for what gdef did." */
    private static void closedGroups() {
        Probe.ran("{\\let\\a1\\catcode!3}").meaning("a", 0).category('!', OTHER).fine();
        Probe.ran("\\let\\a1{\\let\\a2\\a\\let\\a3\\a}\\a").outs("231").fine();
        Probe.ran("\\let\\a1{{\\let\\a2}\\a\\let\\a3{\\a\\let\\a4\\a}\\a}\\a").outs("13431").fine();
        Probe.ran("{\\def\\a{1}{\\edef\\a{2}\\a}\\a}\\a").fault(2).outs("21");
        Probe.ran("{\\csname a\\endcsname}").meaning("a", 0).fine();
        Probe.ran("{\\let\\fi\\relax\\let\\par1\\par}\\iftrue\\par\\fi").outs("1|").count(3, 0).fine();
        Probe.ran("{{{\\gdef\\a{1}}\\a}\\a}\\a").outs("111").fine();
        Probe.ran("{\\let\\a1{\\let\\a2{\\let\\a3\\gdef\\a{4}\\let\\a5\\a}\\a}\\a}\\a").outs("5444").fine();
        Probe.ran("{\\catcode!3{\\catcode!4\\relax}!}!").out(0, '!', 3).out(1, '!', OTHER).fine();
        // Macros and tokens that are out stay.
        Probe.ran("{\\def\\a{}1\\iftrue}").count(4, 1).outs("1").count(3, 1).fine();
    }

    /** "To GET EXPANDED: a token is got; as long as it is expandable, it is expanded and another one is got." */
    private static void gotExpanded() {
        Probe.ran("\\def\\a{\\b}\\def\\b{\\c}\\def\\c{1}\\edef\\d{\\a}").detail("d", 2, 1).detail("d", 3, '1' + 256 * OTHER).fine();
        Probe.ran("\\def\\a{}\\edef\\d{\\a\\a\\a}").detail("d", 2, 0).fine();
        Probe.ran("\\def\\a{}\\if\\a1\\a1y\\fi").outs("y").fine();
        Probe.ran("\\def\\a{}\\csname\\a b\\a\\endcsname").detail("b", 0, 2).fine();
    }

    /** "An EXPANSION that would be the 201st in a step .. : fault 5". */
    private static void twoHundredExpansionsInAStep() {
        String start = "\\def\\a{}\\def\\b{\\a\\a\\a\\a\\a\\a\\a\\a\\a}\\edef\\x{" + Probe.times(20, "\\b");
        Probe.ran(start + "}").fine().detail("x", 2, 0);
        Probe.ran(start + "1}").fine().detail("x", 2, 1);
        Probe.ran(start + "\\a}").fault(5, start.length() + 2).count(1, 3).meaning("x", 0);
        Probe.ran(start + "\\string1}").fault(5, start.length() + 7);
        Probe.ran(start + "\\iftrue}").fault(5, start.length() + 7).count(3, 0);
        // An expansion inside of another one counts, too: 198, and expandafter with \a.
        String less = start.substring(0, start.length() - 2) + Probe.times(8, "\\a");
        Probe.ran(less + "\\expandafter1\\a}").fine().detail("x", 2, 1);
        Probe.ran(less + "\\a\\expandafter1\\a}").fault(5);
        // The next step begins anew.
        Probe.ran(start + "}\\b\\b").fine();
        Probe.of("\\def\\a{\\a}\\a").run(500, 0).run(500, 0).count(1, 1000).fault(0);
        // As many as there may be, each with the next one behind it.
        Probe.ran("\\def\\a{\\a}\\edef\\b{\\a}").fault(5, 20).count(1, 2);
    }

    /** "or begins while 30 others are not done: fault 5". */
    private static void thirtyExpansionsNotDone() {
        String after = "\\let\\e=\\expandafter";
        Probe.ran(after + Probe.times(30, "\\e1") + "2").fine().outs(Probe.times(30, "1") + "2");
        Probe.ran(after + Probe.times(31, "\\e1") + "2").fault(5, after.length() + 92).outs("").count(1, 2);
        String names = "\\def\\a{}\\let\\c=\\csname";
        Probe.ran(names + Probe.times(30, "\\c")).fault(3, names.length() + 60);
        Probe.ran(names + Probe.times(31, "\\c")).fault(5, names.length() + 62);
        Probe.ran(names + Probe.times(29, "\\c") + "\\a\\a").fault(3, names.length() + 62);
        Probe.ran(names + Probe.times(30, "\\c") + "\\a").fault(5, names.length() + 62);
        Probe.ran(names + Probe.times(29, "\\c") + "\\iftrue\\fi").fault(3).count(3, 0);
        Probe.ran(names + Probe.times(30, "\\c") + "\\iftrue\\fi").fault(5).count(3, 0);
        // Those that are done do not count.
        Probe.ran("\\def\\a{}\\edef\\b{" + Probe.times(60, "\\a") + "}").fine();
    }
}
