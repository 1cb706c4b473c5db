/** The promises 1 to 11, sentence by sentence: each call at each edge that is named. */
public final class PromiseSentencesTest {
    private static final int[] FAR = {Integer.MIN_VALUE, Integer.MIN_VALUE + 1, -256, -2, -1};
    private static final int OTHER = 12;

    public static void main(String[] args) {
        atMost512Calls();
        constants();
        aNewObject();
        typeAppendsUpToEight();
        typeFromTheHighestByteOn();
        typePassesZeros();
        typeRefusesWrongCodes();
        typeRefusesMoreThan160();
        typeRefusesOnceTheRunHasBegun();
        tillThenWhatWasReadIsRead();
        wipe();
        again();
        runUpToNSteps();
        runThatFindsNoToken();
        runWithOpenGroupsAndConditionals();
        runOfAnotherN();
        runAtAFault();
        faultKinds();
        faultPlaces();
        faultOfNoSuchWhat();
        out();
        outOfNone();
        counts();
        countOfNoSuchWhat();
        category();
        categoryOfNoCharacter();
        meaningKinds();
        meaningOfOneToEightCharacters();
        meaningOfActiveNames();
        detailOfNothing();
        detailOfCommands();
        detailOfCharacters();
        detailOfMacros();
        detailOfBodies();
        detailOfNoSuchWhat();
        detailOfNoName();
        Probe.end();
    }

    private static void asAtTheBeginning(Probe probe) {
        probe.fault(0, 0).outs("");
        for (int what = 0; what < 5; what++) {
            probe.count(what, 0);
        }
        probe.category('!', OTHER).category('~', 13).meaning("a", 0).meaning("g", 0).meaning("q", 0).meaning("x", 0);
        probe.activeMeaning("~", 0).detail("par", 0, 1).detail("fi", 0, 18);
    }

    /** All that can be asked for: some 300 calls, so that an object can be asked only once. */
    private static void allAsAtTheBeginning(Probe probe) {
        asAtTheBeginning(probe);
        TokenMouth fresh = new TokenMouth();
        for (int c = 10; c < 127; c = c == 10 ? 32 : c + 1) {
            probe.category(c, fresh.category(c)).meaning("" + (char) c, 0).activeMeaning("" + (char) c, 0);
        }
        String[] commands = {"par", "relax", "def", "gdef", "edef", "let", "catcode", "", "noexpand", "csname", "",
            "string", "if", "ifx", "iftrue", "iffalse", "else", "fi"};
        for (int k = 0; k < commands.length; k++) {
            if (!commands[k].isEmpty()) {
                probe.detail(commands[k], 0, k + 1);
            }
        }
    }

    /** "An object is used for at most 512 calls": the last of them is answered like the first. */
    private static void atMost512Calls() {
        TokenMouth mouth = new TokenMouth();
        for (int k = 0; k < 128; k++) {
            mouth.wipe();
            Probe.check("type " + k, mouth.type(Probe.pack("\\def~{1}")) ? 1 : 0, 1);
            Probe.check("run " + k, Probe.answer(() -> mouth.run(500)), 1);
            Probe.check("detail " + k, Probe.answer(() -> mouth.detail('~', true, 3)), '1' + 256 * OTHER);
        }
        // As many steps as all calls together can ask for.
        Probe endless = Probe.of("\\def\\a{\\a}\\a");
        for (int k = 1; k <= 508; k++) {
            endless.run(500, 0);
        }
        endless.count(1, 508 * 500).fault(0);
    }

    /** "The constants: NONE = -1". */
    private static void constants() {
        Probe.check("NONE", TokenMouth.NONE, -1);
    }

    /** Promise 1: "An empty text; the run is at its beginning." */
    private static void aNewObject() {
        allAsAtTheBeginning(Probe.of(""));
        Probe.of("").run(1, 1).count(1, 0).fault(0, 0).run(500, 1).count(1, 0);
        // Empty: all 160 characters have room.
        Probe.of(Probe.times(160, "x")).refuses("x");
        // Two objects have nothing in common.
        Probe one = Probe.of("\\let\\a1\\catcode!3");
        Probe other = Probe.of("\\a");
        one.runOut().fine();
        other.meaning("a", 0).category('!', OTHER).runOut().fault(2, 2);
        one.fault(0).meaning("a", 2);
    }

    /** Promise 2: "Appends up to eight characters to the text". */
    private static void typeAppendsUpToEight() {
        for (int length = 0; length <= 8; length++) {
            Probe.of("0").type("12345678".substring(0, length)).type("9").runOut().outs("012345678".substring(0, length + 1) + "9");
        }
        Probe.check("no characters", new TokenMouth().type(0) ? 1 : 0, 1);
    }

    /** "the codes of which are the eight bytes of w from the highest on". */
    private static void typeFromTheHighestByteOn() {
        Probe probe = Probe.of("");
        Probe.check("eight", probe.mouth.type(0x3132_3334_3536_3738L) ? 1 : 0, 1);
        probe.runOut().outs("12345678");
    }

    /** "but for those that are 0: true". */
    private static void typePassesZeros() {
        long[] words = {0x3100_0000_0000_0000L, 0x31L, 0x0000_0031_0000_0000L};
        for (long word : words) {
            Probe probe = Probe.of("0");
            Probe.check("one byte of " + word, probe.mouth.type(word) ? 1 : 0, 1);
            Probe.check("nothing", probe.mouth.type(0L) ? 1 : 0, 1);
            probe.runOut().outs("01").fault(0, 2);
        }
        Probe between = Probe.of("");
        Probe.check("zeros between", between.mouth.type(0x3100_3200_0033_0034L) ? 1 : 0, 1);
        between.runOut().outs("1234").fault(0, 4);
    }

    /** "False, changing nothing, if one of the others is no such code". */
    private static void typeRefusesWrongCodes() {
        int[] wrong = {1, 9, 11, 13, 31, 127, 128, 138, 160, 255};
        for (int code : wrong) {
            for (int shift = 0; shift < 64; shift += 8) {
                Probe probe = Probe.of("0");
                long word = 0x3131_3131_3131_3131L & ~(255L << shift) | (long) code << shift;
                Probe.check("type with " + code + " at " + shift, probe.mouth.type(word) ? 1 : 0, 0);
                probe.type("2").runOut().outs("02").fault(0, 2);
            }
        }
        Probe.check("-1", new TokenMouth().type(-1L) ? 1 : 0, 0);
        Probe.check("the lowest", new TokenMouth().type(Long.MIN_VALUE) ? 1 : 0, 0);
        Probe.check("the highest", new TokenMouth().type(Long.MAX_VALUE) ? 1 : 0, 0);
    }

    /** "it would be more than 160". */
    private static void typeRefusesMoreThan160() {
        for (int length = 150; length <= 160; length++) {
            for (int more = 0; more <= 8; more++) {
                Probe probe = Probe.of(Probe.times(length, "x"));
                String text = "12345678".substring(0, more);
                if (length + more <= 160) {
                    probe.type(text).runOut().outs(Probe.times(length, "x") + text);
                } else {
                    probe.refuses(text).runOut().outs(Probe.times(length, "x"));
                }
            }
        }
    }

    /** "or the run has begun (by a step; ..". */
    private static void typeRefusesOnceTheRunHasBegun() {
        Probe.of("1").run(1, 0).refuses("2").refuses("").run(1, 1).refuses("2").outs("1").fault(0, 1);
        Probe.of("\\relax").run(1, 0).refuses("2").run(1, 1);
        Probe.of("}").run(1, Probe.STATE).refuses("2").fault(1, 1);
        Probe.of("\\").run(1, Probe.STATE).refuses("2").fault(3, 1).count(1, 1);
        // A call that is refused is no step.
        Probe.of("1").run(0, Probe.ARGUMENT).run(501, Probe.ARGUMENT).type("2").runOut().outs("12");
        // Nor is one that asks.
        Probe asked = Probe.of("1").count(0, 0).count(1, 0).fault(0, 0).category('1', OTHER).meaning("a", 0);
        asked.type("2").runOut().outs("12");
        // After again and wipe it has not begun.
        Probe begun = Probe.of("1").run(1, 0).refuses("2");
        begun.mouth.again();
        begun.type("2").run(2, 0).outs("12").refuses("3");
        begun.mouth.wipe();
        Probe.check("type after wipe", begun.mouth.type('3') ? 1 : 0, 1);
        begun.run(1, 0).outs("3").refuses("4");
    }

    /** "till then what was read is read, and the run goes on behind it)". */
    private static void tillThenWhatWasReadIsRead() {
        Probe.of("").run(1, 1).type("1").run(1, 0).outs("1").refuses("2");
        Probe.of("   ").run(1, 1).fault(0, 3).type("1").run(2, 1).outs("1").fault(0, 4);
        // The comment ended with the text: what comes then is no part of it.
        Probe.of("%1").run(1, 1).fault(0, 2).type("2\n").run(5, 1).outs("2 ").fault(0, 4);
        Probe.of("%1\n").run(1, 1).fault(0, 3).type("  \n").run(5, 1).outs("|").fault(0, 6);
        Probe.of("%").run(500, 1).type("%").run(500, 1).type("%").run(500, 1).count(1, 0).fault(0, 3).type("1").run(1, 0);
        // Typing has no part in it as long as nothing was run.
        Probe.of("%1").type("2\n3").run(5, 1).outs("3").fault(0, 5);
        Probe.of("\\rel").type("ax").run(5, 1).outs("").fault(0, 6);
    }

    private static final String MUCH = "1\\let~2\\catcode!3{\\def\\a{\\fi}\\gdef\\g{1}\\let\\par0\\iftrue\\iftrue\\csname q\\endcsname\\x";

    /** Promise 3: "As at the beginning, also the text." */
    private static void wipe() {
        Probe probe = Probe.ran(MUCH).fault(2, MUCH.length()).count(2, 1).count(3, 2).count(4, 2).outs("1");
        probe.mouth.wipe();
        asAtTheBeginning(probe);
        probe.run(500, 1).fault(0, 0).count(1, 0);
        probe.mouth.wipe();
        probe.mouth.wipe();
        asAtTheBeginning(probe);
        Probe all = Probe.ran(MUCH);
        all.mouth.wipe();
        allAsAtTheBeginning(all);
        for (int k = 0; k < 20; k++) {
            Probe.check("room after wipe", probe.mouth.type(Probe.pack("xxxxxxxx")) ? 1 : 0, 1);
        }
        probe.refuses("x").run(500, 1).count(0, 160).fault(0, 160);
        // In the middle of a run, with tokens pending, and before it has begun.
        Probe middle = Probe.of("\\def\\a{1234}\\a").run(3, 0).outs("1");
        middle.mouth.wipe();
        asAtTheBeginning(middle);
        middle.run(1, 1).outs("");
        Probe typed = Probe.of("123");
        typed.mouth.wipe();
        typed.run(500, 1).count(0, 0).fault(0, 0);
        // On a new object it does nothing.
        Probe fresh = Probe.of("");
        fresh.mouth.wipe();
        asAtTheBeginning(fresh);
    }

    /** Promise 4: "The text stays; all else is as at the beginning." */
    private static void again() {
        Probe probe = Probe.ran(MUCH);
        for (int k = 0; k < 3; k++) {
            probe.mouth.again();
            asAtTheBeginning(probe);
            probe.runOut().fault(2, MUCH.length()).count(2, 1).count(3, 2).count(4, 2).outs("1");
        }
        probe.mouth.again();
        probe.mouth.again();
        asAtTheBeginning(probe);
        Probe all = Probe.ran(MUCH);
        all.mouth.again();
        allAsAtTheBeginning(all);
        // Text may be typed then, behind that which stays.
        Probe more = Probe.of("1").run(500, 1);
        more.mouth.again();
        more.type("2").run(500, 1).outs("12").fault(0, 2);
        Probe middle = Probe.of("\n\\def\\a{1234}\\a5").run(4, 0).outs("|1");
        middle.mouth.again();
        asAtTheBeginning(middle);
        middle.run(500, 1).outs("|12345").fault(0, 16);
        Probe read = Probe.of("%\n").run(1, 1).fault(0, 2);
        read.mouth.again();
        read.fault(0, 0).type("\n").run(1, 0).outs("|");
        Probe fresh = Probe.of("");
        fresh.mouth.again();
        asAtTheBeginning(fresh);
        Probe full = Probe.of(Probe.times(160, "x")).run(500, 1);
        full.mouth.again();
        full.refuses("x").run(500, 1).count(0, 160);
    }

    /** Promise 5: "Up to n steps (1 .. 500; ..): 0 if the run goes on, 1 if it has ended". */
    private static void runUpToNSteps() {
        String loop = "\\def\\a{\\a}\\a";
        int[] allowed = {1, 2, 3, 42, 255, 256, 257, 499, 500};
        for (int n : allowed) {
            Probe.of(loop).run(n, 0).count(1, n).run(n, 0).count(1, 2 * n);
        }
        Probe.of("12345").run(1, 0).outs("1").run(3, 0).outs("1234").run(2, 1).outs("12345").count(1, 5);
        Probe.of("12345").run(500, 1).count(1, 5).outs("12345");
        Probe.of("12345").run(6, 1).count(1, 5);
    }

    /** "a step that finds no token is none". */
    private static void runThatFindsNoToken() {
        Probe.of("123").run(3, 0).count(1, 3).run(1, 1).count(1, 3).run(1, 1).count(1, 3);
        Probe.of("").run(1, 1).count(1, 0);
        Probe.of("1 %").run(2, 0).count(1, 2).fault(0, 2).run(1, 1).count(1, 2).fault(0, 3);
        // An expansion of which nothing comes is a step.
        Probe.of("\\def\\a{}\\a").run(2, 0).count(1, 2).run(1, 1).count(1, 2);
    }

    /** "1 if it has ended (groups and conditionals may be open)". */
    private static void runWithOpenGroupsAndConditionals() {
        Probe.of("{").run(500, 1).count(2, 1).fault(0);
        Probe.of("\\iftrue").run(500, 1).count(3, 1).fault(0);
        Probe.of("{\\iftrue{\\iffalse\\else").run(500, 1).count(2, 2).count(3, 2).fault(0).run(1, 1);
    }

    /** "IllegalArgumentException if n is another one (that first)". */
    private static void runOfAnotherN() {
        int[] wrong = {0, 501, 502, 512, 756, 1000, 65536, Integer.MAX_VALUE, -500};
        Probe fresh = Probe.of("12");
        Probe faulty = Probe.of("}").run(1, Probe.STATE);
        Probe ended = Probe.of("1").run(2, 1);
        for (int n : wrong) {
            fresh.run(n, Probe.ARGUMENT).count(1, 0).fault(0, 0);
            faulty.run(n, Probe.ARGUMENT).fault(1, 1);
            ended.run(n, Probe.ARGUMENT).count(1, 1);
        }
        for (int n : FAR) {
            fresh.run(n, Probe.ARGUMENT).count(1, 0).fault(0, 0);
            faulty.run(n, Probe.ARGUMENT).fault(1, 1);
        }
        fresh.run(500, 1).outs("12");
    }

    /** "IllegalStateException if it came to a fault, or did so before". */
    private static void runAtAFault() {
        Probe.of("1}2").run(1, 0).run(1, Probe.STATE).count(1, 2).run(1, Probe.STATE).count(1, 2).run(500, Probe.STATE)
                .outs("1").fault(1, 2);
        Probe.of("1}2").run(500, Probe.STATE).count(1, 2).run(1, Probe.STATE).count(1, 2);
        // The n steps are done without that which would be the fault.
        Probe.of("12}").run(2, 0).fault(0, 2).run(1, Probe.STATE).fault(1, 3);
        Probe again = Probe.of("}").run(1, Probe.STATE);
        again.mouth.again();
        again.fault(0, 0).run(1, Probe.STATE).fault(1, 1);
        again.mouth.wipe();
        again.run(1, 1).fault(0, 0);
    }

    /** Promise 6: "what 0: the fault, 0 without". */
    private static void faultKinds() {
        Probe.of("1}").fault(0).run(1, 0).fault(0).run(1, Probe.STATE).fault(1);
        Probe.ran("}").fault(1, 1);
        Probe.ran("~").fault(2, 1);
        Probe.ran("\\").fault(3, 1);
        Probe.ran("\\let1").fault(4, 5);
        Probe.ran("\\abcdefghijkl").fault(5, 13);
        Probe.ran("\\def\\a.{}\\a1").fault(6, 12);
        Probe.ran("\\def\\a#1{}\\a\\par").fault(7, 16);
        Probe.ran("\\catcode!15!").fault(8, 12);
        Probe.ran("1").fault(0, 1);
    }

    /** "1: how many characters of the text were read (also those whose tokens are pending, and in front of a fault: with the one of category 15, with the twelfth of a name, with a \ at the end)". */
    private static void faultPlaces() {
        Probe.of("12").fault(0, 0).run(1, 0).fault(0, 1).run(1, 0).fault(0, 2).run(1, 1).fault(0, 2);
        Probe.of("\\relax 1").run(1, 0).fault(0, 6).run(1, 0).fault(0, 8);
        Probe.of("\\expandafter123").run(1, 0).fault(0, 14).run(2, 0).fault(0, 14).run(1, 0).fault(0, 15);
        Probe.of("\\catcode!3x1").run(1, 0).fault(0, 11).run(1, 0).fault(0, 11).run(1, 0).fault(0, 12);
        Probe.of("\\def\\a#1{#1}\\a{123}4").run(2, 0).fault(0, 19).run(3, 0).outs("123").fault(0, 19);
        Probe.of("1 \n 2").run(2, 0).fault(0, 2).run(1, 0).fault(0, 5);
        // Passed characters at the end are read when the end is found.
        Probe.of("1  %").run(2, 0).fault(0, 2).run(1, 1).fault(0, 4);
        Probe.ran("\\catcode!15%\n  !2").fault(8, 16);
        Probe.ran("12\\abcdefghijklmn").fault(5, 15);
        Probe.ran("12\\").fault(3, 3);
        Probe.ran("12}34").fault(1, 3);
        Probe.ran("1\\x 2").fault(2, 3);
    }

    /** "IndexOutOfBoundsException if there is no such what." */
    private static void faultOfNoSuchWhat() {
        Probe probe = Probe.ran("}");
        int[] wrong = {2, 3, 256, 257, Integer.MAX_VALUE};
        for (int what : wrong) {
            Probe.check("fault " + what, Probe.answer(() -> probe.mouth.fault(what)), Probe.INDEX);
            Probe.check("fault of new " + what, Probe.answer(() -> new TokenMouth().fault(what)), Probe.INDEX);
        }
        for (int what : FAR) {
            Probe.check("fault " + what, Probe.answer(() -> probe.mouth.fault(what)), Probe.INDEX);
        }
        probe.fault(1, 1);
    }

    /** Promise 7: "Token k that is OUT: its code + 256 * its category, 4096 for par." */
    private static void out() {
        Probe.ran("a1 $\n\n").out(0, 'a', 11).out(1, '1', OTHER).out(2, ' ', 10).out(3, '$', 3).out(4, ' ', 10)
                .out(5, 4096, 0).count(0, 6);
        Probe.ran("\\let\\x a\\let\\p\\par\\x\\p").out(0, 'a', 11).out(1, 4096, 0).count(0, 2);
        Probe.ran("\\catcode\\\n12\n\\string~").out(0, 10, OTHER).out(1, '~', OTHER).count(0, 2);
    }

    /** "IndexOutOfBoundsException if there is none." */
    private static void outOfNone() {
        Probe.of("").out(0, Probe.INDEX, 0);
        Probe probe = Probe.of("12").run(1, 0).out(0, '1', OTHER).out(1, Probe.INDEX, 0).run(1, 0).out(1, '2', OTHER);
        int[] wrong = {2, 3, 199, 200, 201, 256, Integer.MAX_VALUE};
        for (int k : wrong) {
            probe.out(k, Probe.INDEX, 0);
        }
        for (int k : FAR) {
            probe.out(k, Probe.INDEX, 0);
        }
        // What was out before is so no more.
        probe.mouth.again();
        probe.out(0, Probe.INDEX, 0);
        Probe.ran("12}").out(1, '2', OTHER).out(2, Probe.INDEX, 0);
    }

    /** Promise 8: "how many tokens are OUT, 1: steps done (also one with a fault), 2: groups open, 3: conditionals open (testing ones, too), 4: macros made". */
    private static void counts() {
        Probe.ran("12\\par\\relax").count(0, 3).count(1, 4).count(2, 0).count(3, 0).count(4, 0);
        Probe.ran("1}").count(0, 1).count(1, 2);
        Probe.ran("1\\").count(0, 1).count(1, 2);
        Probe.ran("1\\catcode!15!").count(1, 3);
        Probe.of("12}").run(1, 0).count(1, 1).run(1, 0).count(1, 2).run(1, Probe.STATE).count(1, 3).run(1, Probe.STATE).count(1, 3);
        Probe.ran("{{}{").count(2, 2);
        Probe.ran("\\iftrue\\if").fault(3).count(3, 2);
        Probe.ran("\\ifx").fault(3).count(3, 1);
        Probe.ran("\\iffalse").fault(3).count(3, 1);
        Probe.ran("\\def\\a{}\\gdef\\a{}\\edef\\a{}\\let\\b\\a").count(4, 3);
        Probe.ran("\\def\\a{}\\def\\b{").fault(3).count(4, 1);
        Probe.ran("{\\def\\a{}}").count(4, 1);
    }

    /** "IndexOutOfBoundsException if there is no such what." (of count) */
    private static void countOfNoSuchWhat() {
        Probe probe = Probe.ran("12{");
        int[] wrong = {5, 6, 256, 260, Integer.MAX_VALUE};
        for (int what : wrong) {
            probe.count(what, Probe.INDEX);
        }
        for (int what : FAR) {
            probe.count(what, Probe.INDEX);
        }
        probe.count(4, 0).count(0, 2);
    }

    /** Promise 9: "The category of a character." */
    private static void category() {
        Probe.ran("\\catcode!3\\catcode\\\n8").category('!', 3).category(10, 8).category('~', 13).category(' ', 10)
                .category(126, 13).category(32, 10).category(33, 3);
        Probe.of("\\catcode!3").category('!', OTHER).run(1, 0).category('!', 3);
    }

    /** "IndexOutOfBoundsException if it is not 32 .. 126 or 10." */
    private static void categoryOfNoCharacter() {
        Probe probe = Probe.of("");
        for (int c = -300; c < 700; c++) {
            if (c != 10 && (c < 32 || c > 126)) {
                Probe.of("").category(c, Probe.INDEX);
            }
        }
        probe.category(Integer.MAX_VALUE, Probe.INDEX).category(Integer.MIN_VALUE, Probe.INDEX);
        probe.category(65536 + 'a', Probe.INDEX).category(Integer.MIN_VALUE + 'a', Probe.INDEX);
        probe.category(31, Probe.INDEX).category(32, 10).category(126, 13).category(127, Probe.INDEX);
        probe.category(9, Probe.INDEX).category(10, 5).category(11, Probe.INDEX);
    }

    /** Promise 10: "0 nothing, 1 a command, 2 a character, 3 a macro". */
    private static void meaningKinds() {
        Probe probe = Probe.ran("\\let\\a\\fi\\let\\b1\\def\\c{}\\let\\d\\e\\let\\f{").fine();
        probe.meaning("a", 1).meaning("b", 2).meaning("c", 3).meaning("d", 0).meaning("e", 0).meaning("f", 2);
        probe.meaning("par", 1).meaning("fi", 1).meaning("zz", 0);
        // The first and the last macro that can be made, and the characters of the lowest and the highest token.
        Probe.ran("\\def\\a{\\def\\b{}\\a}\\a").fault(5).meaning("a", 3).meaning("b", 3);
        Probe.ran("\\catcode\\\n01\\let\\a\n").detail("a", 0, 10 + 256).meaning("a", 2);
        Probe.ran("\\catcode~12\\let\\a~").detail("a", 0, 126 + 256 * OTHER).meaning("a", 2);
        // A marked name that is pending means what it means without the mark.
        Probe.of("\\def\\a{}\\noexpand\\a").run(2, 0).meaning("a", 3);
    }

    /** "the name of the characters that are the bytes of w (as in type(); up to eight) .. NoSuchElementException if these are no 1 to 8 characters of a text". */
    private static void meaningOfOneToEightCharacters() {
        for (int length = 1; length <= 8; length++) {
            String name = "abcdefgh".substring(0, length);
            Probe.ran("\\let\\" + name + "1").meaning(name, 2).meaning("x" + name.substring(1), 0);
        }
        Probe probe = Probe.ran("\\let\\ab1\\let\\ 1\\let\\\n1\\let\\~1");
        probe.meaning(" ", 2).meaning("\n", 2).meaning("~", 2).meaning("ab", 2).meaning("ba", 0);
        long[] zeros = {0x6162L, 0x6100_6200_0000_0000L, 0x6100_0000_0000_0062L, 0x0061_0000_6200_0000L};
        for (long word : zeros) {
            Probe.check("with zeros " + word, Probe.answer(() -> probe.mouth.meaning(word, false)), 2);
        }
        probe.meaning("", Probe.ELEMENT);
        int[] wrong = {1, 9, 11, 31, 127, 128, 138, 255};
        for (int code : wrong) {
            for (int shift = 0; shift < 64; shift += 8) {
                long alone = (long) code << shift;
                long among = 0x6161_6161_6161_6161L & ~(255L << shift) | alone;
                Probe.check("meaning of " + alone, Probe.answer(() -> probe.mouth.meaning(alone, false)), Probe.ELEMENT);
                Probe.check("active of " + alone, Probe.answer(() -> probe.mouth.meaning(alone, true)), Probe.ELEMENT);
                Probe.check("meaning of " + among, Probe.answer(() -> probe.mouth.meaning(among, false)), Probe.ELEMENT);
            }
        }
        // The end of a longer name is not that name.
        Probe.ran("\\let\\abcdefghijk1").meaning("defghijk", 0).meaning("abcdefgh", 0);
        Probe.ran("\\let\\abcdefghi1").meaning("bcdefghi", 0).meaning("abcdefgh", 0);
    }

    /** "or, if active, the active name of its one character", "(just one, if active)". */
    private static void meaningOfActiveNames() {
        Probe probe = Probe.ran("\\let~1\\let\\a1");
        probe.activeMeaning("~", 2).meaning("~", 0).activeMeaning("a", 0).activeMeaning("\n", 0).activeMeaning(" ", 0);
        probe.activeMeaning("", Probe.ELEMENT).activeMeaning("~~", Probe.ELEMENT).activeMeaning("par", Probe.ELEMENT);
        probe.activeMeaning("abcdefgh", Probe.ELEMENT);
        long[] zeros = {0x7EL, 0x7E00_0000_0000_0000L, 0x7E00L};
        for (long word : zeros) {
            Probe.check("active with zeros " + word, Probe.answer(() -> probe.mouth.meaning(word, true)), 2);
        }
        Probe.check("two apart", Probe.answer(() -> probe.mouth.meaning(0x7E00_0000_0000_007EL, true)), Probe.ELEMENT);
    }

    /** Promise 11: "what 0 (NONE of nothing)", "(both 0 without a macro, also of nothing)". */
    private static void detailOfNothing() {
        Probe probe = Probe.ran("\\let\\a\\b");
        for (String name : new String[] {"a", "b", "c", "abcdefgh"}) {
            probe.detail(name, 0, -1).detail(name, 1, 0).detail(name, 2, 0).detail(name, 3, -1).detail(name, 4, -1);
        }
        probe.activeDetail("~", 0, -1).activeDetail("~", 1, 0).activeDetail("~", 2, 0).activeDetail("~", 3, -1);
    }

    /** "of a command its place (1 .. 18) in the list above". */
    private static void detailOfCommands() {
        String[] commands = {"par", "relax", "def", "gdef", "edef", "let", "catcode", "expandafter", "noexpand",
            "csname", "endcsname", "string", "if", "ifx", "iftrue", "iffalse", "else", "fi"};
        for (int k = 0; k < commands.length; k++) {
            Probe probe = Probe.ran("\\let\\a\\" + commands[k] + "\\let~\\a").fine().meaning("a", 1);
            probe.detail("a", 0, k + 1).detail("a", 1, 0).detail("a", 2, 0).detail("a", 3, -1);
            probe.activeDetail("~", 0, k + 1).activeDetail("~", 1, 0);
            if (commands[k].length() <= 8) {
                probe.meaning(commands[k], 1).detail(commands[k], 0, k + 1);
            }
        }
    }

    /** "of a character as in out()". */
    private static void detailOfCharacters() {
        Probe probe = Probe.ran("\\let\\a1\\let\\b{\\let\\c}\\let\\d= \\let\\e#").fine();
        probe.detail("a", 0, '1' + 256 * OTHER).detail("b", 0, '{' + 256).detail("c", 0, '}' + 512);
        probe.detail("d", 0, ' ' + 2560).detail("e", 0, '#' + 1536);
        for (String name : new String[] {"a", "b", "c", "d", "e"}) {
            probe.detail(name, 1, 0).detail(name, 2, 0).detail(name, 3, -1).detail(name, -1, -1);
        }
    }

    /** "of a macro how many parameters it has; 1: how many tokens its text has (a parameter is one), 2: its body". */
    private static void detailOfMacros() {
        for (int parameters = 0; parameters <= 4; parameters++) {
            String text = "#1#2#3#4".substring(0, 2 * parameters);
            Probe probe = Probe.ran("\\def\\a." + text + "\\x{" + text + text + "}").fine();
            probe.detail("a", 0, parameters).detail("a", 1, parameters + 2).detail("a", 2, 2 * parameters);
        }
        Probe.ran("\\def~#1{12}").activeDetail("~", 0, 1).activeDetail("~", 1, 1).activeDetail("~", 2, 2)
                .activeDetail("~", 3, '1' + 256 * OTHER);
    }

    /** "3 + k: token k of its body: a character as in out(), 4096 for a name, 4096 + p for parameter p; NONE if it has none". */
    private static void detailOfBodies() {
        Probe probe = Probe.ran("\\def\\a#1#2#3#4{1{#4}\\par~#1#2#3 \\fi##}").fine().detail("a", 2, 12);
        probe.detail("a", 3, '1' + 256 * OTHER).detail("a", 4, '{' + 256).detail("a", 5, 4100).detail("a", 6, '}' + 512);
        probe.detail("a", 7, 4096).detail("a", 8, 4096).detail("a", 9, 4097).detail("a", 10, 4098);
        probe.detail("a", 11, 4099).detail("a", 12, ' ' + 2560).detail("a", 13, 4096).detail("a", 14, '#' + 1536);
        probe.detail("a", 15, -1).detail("a", 16, -1).detail("a", 43, -1);
        Probe.ran("\\def\\a{}").detail("a", 3, -1);
        Probe.ran("\\def\\a{1}").detail("a", 3, '1' + 256 * OTHER).detail("a", 4, -1);
        // The last token of the longest body.
        Probe.ran("\\def\\a{" + Probe.times(39, "x") + "y}").detail("a", 42, 'y' + 256 * 11).detail("a", 43, -1);
        // Rows that were longer before: nothing of them shows.
        Probe used = Probe.ran("\\def\\a#1{123456}");
        used.mouth.wipe();
        used.mouth.type(Probe.pack("\\def\\a{}"));
        used.runOut().detail("a", 0, 0).detail("a", 1, 0).detail("a", 2, 0).detail("a", 3, -1);
    }

    /** "NONE .. if .. there is no such what". */
    private static void detailOfNoSuchWhat() {
        Probe probe = Probe.ran("\\def\\a#1{12}\\let\\b1\\let~\\a");
        int[] wrong = {5, 6, 44, 45, 256, 259, Integer.MAX_VALUE - 1, Integer.MAX_VALUE};
        for (String name : new String[] {"a", "b", "fi", "zz"}) {
            for (int what : wrong) {
                probe.detail(name, what, -1);
            }
            for (int what : FAR) {
                probe.detail(name, what, -1);
            }
        }
        probe.activeDetail("~", -1, -1).activeDetail("~", 5, -1).activeDetail("~", Integer.MIN_VALUE + 3, -1);
    }

    /** "NoSuchElementException as above." */
    private static void detailOfNoName() {
        Probe probe = Probe.ran("\\def\\a{1}");
        int[] whats = {Integer.MIN_VALUE, -1, 0, 1, 2, 3, 4, Integer.MAX_VALUE};
        for (int what : whats) {
            probe.detail("", what, Probe.ELEMENT).detail("\u0009", what, Probe.ELEMENT).detail("a\u007f", what, Probe.ELEMENT);
            probe.activeDetail("", what, Probe.ELEMENT).activeDetail("aa", what, Probe.ELEMENT);
            probe.activeDetail("\u001f", what, Probe.ELEMENT);
            Probe.check("all 255", Probe.answer(() -> probe.mouth.detail(-1L, false, what)), Probe.ELEMENT);
        }
    }
}
